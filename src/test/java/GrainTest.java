/** The sentences of "Terms" about bays, weeks, orders and moving, one after the other. */
public final class GrainTest {
    private static final Check CHECK = new Check("grain");
    private static final int[] KEEPS = {20, 15, 10, 12};

    public static void main(String[] args) {
        emptyAtFirst();
        oneToTwoHundredSacks();
        ofOneKind();
        newInAnEmptyBay();
        asOldAsWhatLiesThere();
        allGetsOlder();
        spoilsOnlyIfOlderThanItKeeps();
        keepsByItsOwnKind();
        tenthIsRoundedUp();
        spoilsWeekByWeek();
        spoiltInAllBays();
        oldestFirst();
        ofLikeOnesTheLowestBay();
        onlyOfTheKind();
        allSacksOfTheKind();
        coinsForEachKind();
        fiftyCoinsAtFirst();
        movedIntoAnEmptyBay();
        movedToGrainOfThisKind();
        movedWholly();
        CHECK.end();
    }

    private static void dueBay(String name, GranaryLadder x, int bay, int kind, int sacks, int age) {
        CHECK.due(name + ": the kind in the bay " + bay, kind, x.bayOf(bay, 0));
        CHECK.due(name + ": the sacks in the bay " + bay, sacks, x.bayOf(bay, 1));
        CHECK.due(name + ": the age in the bay " + bay, age, x.bayOf(bay, 2));
    }

    private static void dueEmpty(String name, GranaryLadder x, int bay) {
        dueBay(name, x, bay, -15, 0, 0);
        CHECK.due(name + ": none spoils in the bay " + bay, 0, x.bayOf(bay, 3));
    }

    /** "There are the bays 0 to 31, each empty, as at first". */
    private static void emptyAtFirst() {
        GranaryLadder x = new GranaryLadder();
        for (int bay = 0; bay < 32; bay++) {
            dueEmpty("at first", x, bay);
        }
        CHECK.due("at first: bays with grain", 0, x.account(2));
        CHECK.due("at first: all sacks", 0, x.account(3));
        CHECK.due("all full: bays with grain", 32, Granaries.full().account(2));
        CHECK.due("all full: all sacks", 6400, Granaries.full().account(3));
    }

    /** "or with 1 to 200 sacks": each way to the most, and one beyond it. */
    private static void oneToTwoHundredSacks() {
        for (int there = 1; there < 200; there++) {
            GranaryLadder x = Granaries.with(5, 1, there, 0);
            CHECK.due("stored to 201 from " + there, -14, x.store(5, 1, 201 - there));
            CHECK.due("is refused as 1 too many", 1, x.reason(true));
            CHECK.due("stored to 200 from " + there, 0, x.store(5, 1, 200 - there));
            dueBay("full", x, 5, 1, 200, 0);
        }
        GranaryLadder y = Granaries.with(5, 1, 199, 0);
        y.store(6, 1, 2);
        CHECK.due("moved to 201", -14, y.move(6, 5, 2));
        CHECK.due("moved to 200", 0, y.move(6, 5, 1));
        dueBay("moved to 200", y, 5, 1, 200, 0);
        dueBay("the one that didn't fit", y, 6, 1, 1, 0);
        CHECK.due("taken to the last one", 1, y.take(5, 199));
        dueBay("the last one", y, 5, 1, 1, 0);
    }

    /** "of one kind of grain": each kind keeps each other one out, as long as a sack is there. */
    private static void ofOneKind() {
        for (int kind = 0; kind < 4; kind++) {
            for (int other = 0; other < 4; other++) {
                GranaryLadder x = Granaries.with(8, kind, 1, 0);
                CHECK.due("store " + other + " to " + kind, kind == other ? 0 : -14, x.store(8, other, 1));
                x.take(8, x.bayOf(8, 1));
                CHECK.due("store " + other + " where " + kind + " was", 0, x.store(8, other, 1));
                dueBay("the kind that came last", x, 8, other, 1, 0);
            }
        }
    }

    /** "What is stored in an empty bay is 0 weeks old", also if the bay was emptied in one way or another. */
    private static void newInAnEmptyBay() {
        GranaryLadder taken = Granaries.with(2, 1, 9, 7);
        taken.take(2, 9);
        taken.store(2, 1, 5);
        dueBay("stored after all was taken", taken, 2, 1, 5, 0);
        GranaryLadder sold = Granaries.with(2, 1, 9, 7);
        sold.order(1, 9);
        sold.store(2, 1, 5);
        dueBay("stored after all was sold", sold, 2, 1, 5, 0);
        GranaryLadder moved = Granaries.with(2, 1, 9, 7);
        moved.move(2, 3, 9);
        moved.store(2, 1, 5);
        dueBay("stored after all was moved", moved, 2, 1, 5, 0);
        GranaryLadder spoilt = Granaries.with(2, 1, 1, 16);
        spoilt.store(2, 1, 5);
        dueBay("stored after all was spoilt", spoilt, 2, 1, 5, 0);
    }

    /** "what is stored in a bay with this kind is as old as what lies there". */
    private static void asOldAsWhatLiesThere() {
        for (int weeks = 0; weeks <= 10; weeks++) {
            GranaryLadder x = Granaries.with(2, 2, 1, weeks);
            x.store(2, 2, 99);
            dueBay("stored to one sack", x, 2, 2, 100, weeks);
        }
        GranaryLadder old = Granaries.with(2, 2, 1, 10);
        old.store(2, 2, 90);
        CHECK.due("what was stored spoils with it", 10, old.pass(1));
    }

    /** "When a week goes by, all grain gets a week older". */
    private static void allGetsOlder() {
        GranaryLadder x = Granaries.full();
        x.pass(20);
        for (int bay = 0; bay < 32; bay++) {
            dueBay("20 weeks old", x, bay, 0, 200, 20);
        }
        CHECK.due("weeks", 20, x.account(0));
        CHECK.due("none spoilt", 0, x.account(11));
        GranaryLadder y = Granaries.with(30, 1, 4, 3);
        y.store(31, 1, 4);
        y.pass(1);
        dueBay("each from its own age on", y, 30, 1, 4, 4);
        dueBay("each from its own age on", y, 31, 1, 4, 1);
        dueEmpty("an empty bay has nothing that gets older", y, 0);
    }

    /** "then of each bay whose grain is older than it keeps": 20, 15, 10 and 12 weeks; not just as old. */
    private static void spoilsOnlyIfOlderThanItKeeps() {
        for (int kind = 0; kind < 4; kind++) {
            int keeps = KEEPS[kind];
            GranaryLadder x = Granaries.with(4, kind, 100, keeps - 1);
            CHECK.due("spoils in the week to " + keeps, 0, x.bayOf(4, 3));
            CHECK.due("spoilt in the week to " + keeps, 0, x.pass(1));
            dueBay("as old as it keeps", x, 4, kind, 100, keeps);
            CHECK.due("spoils in the week behind " + keeps, 10, x.bayOf(4, 3));
            CHECK.due("spoilt in the week behind " + keeps, 10, x.pass(1));
            dueBay("older than it keeps", x, 4, kind, 90, keeps + 1);
            CHECK.due("spoils in the next one too", 9, x.bayOf(4, 3));
            CHECK.due("spoilt in the next one too", 9, x.pass(1));
        }
    }

    /** Each kind by its own weeks, when all lie in one granary. */
    private static void keepsByItsOwnKind() {
        GranaryLadder x = new GranaryLadder();
        for (int kind = 0; kind < 4; kind++) {
            x.store(kind, kind, 100);
        }
        for (int week = 1; week <= 21; week++) {
            int due = 0;
            for (int kind = 0; kind < 4; kind++) {
                due += week > KEEPS[kind] ? (x.bayOf(kind, 1) + 9) / 10 : 0;
            }
            CHECK.due("spoilt in the week " + week, due, x.pass(1));
        }
        CHECK.due("all oats, barley, rye and wheat that are left", 400 - x.account(11), x.account(3));
    }

    /** "a tenth of its sacks, rounded up, spoils": for each number of sacks. */
    private static void tenthIsRoundedUp() {
        for (int sacks = 1; sacks <= 200; sacks++) {
            int due = 0;
            while (10 * due < sacks) {
                due++;
            }
            GranaryLadder x = Granaries.with(6, 2, sacks, 10);
            CHECK.due("spoils of " + sacks, due, x.bayOf(6, 3));
            CHECK.due("spoilt of " + sacks, due, x.pass(1));
            CHECK.due("left of " + sacks, sacks - due, x.bayOf(6, 1));
            CHECK.due("sum that is left of " + sacks, sacks - due, x.rungOf(32, 1));
        }
    }

    /** Many weeks in one call are as many calls of a week. */
    private static void spoilsWeekByWeek() {
        for (int weeks = 1; weeks <= 52; weeks++) {
            GranaryLadder once = Granaries.with(6, 2, 200, 0);
            GranaryLadder often = Granaries.with(6, 2, 200, 0);
            int spoilt = 0;
            for (int week = 0; week < weeks; week++) {
                spoilt += often.pass(1);
            }
            CHECK.due("spoilt in " + weeks + " weeks", spoilt, once.pass(weeks));
            CHECK.dueText(weeks + " weeks", Granaries.stateOf(often), Granaries.stateOf(once));
        }
    }

    private static void spoiltInAllBays() {
        GranaryLadder x = Granaries.full();
        x.pass(20);
        CHECK.due("20 of each bay", 640, x.pass(1));
        CHECK.due("spoilt so far", 640, x.account(11));
        CHECK.due("18 of each bay", 576, x.pass(1));
        CHECK.due("spoilt so far", 1216, x.account(11));
    }

    /** "it is filled from the bays with this kind, the oldest grain first": wherever the oldest lies. */
    private static void oldestFirst() {
        for (int oldest = 0; oldest < 3; oldest++) {
            GranaryLadder x = Granaries.with(10 * oldest, 0, 5, 2);
            x.store(10 * ((oldest + 1) % 3), 0, 5);
            x.pass(1);
            x.store(10 * ((oldest + 2) % 3), 0, 5);
            CHECK.due("one less than the oldest has", 16, x.order(0, 4));
            dueBay("one of the oldest is left", x, 10 * oldest, 0, 1, 3);
            CHECK.due("the last one of it and all of the next but one", 20, x.order(0, 5));
            dueEmpty("the oldest is gone", x, 10 * oldest);
            dueBay("the next one", x, 10 * ((oldest + 1) % 3), 0, 1, 1);
            dueBay("the youngest one", x, 10 * ((oldest + 2) % 3), 0, 5, 0);
        }
    }

    /** "of like ones the lowest bay", and not the one with more or fewer sacks. */
    private static void ofLikeOnesTheLowestBay() {
        GranaryLadder x = new GranaryLadder();
        x.store(31, 1, 9);
        x.store(4, 1, 6);
        x.store(0, 1, 7);
        x.order(1, 7);
        dueEmpty("the lowest is gone", x, 0);
        dueBay("the second one stays", x, 4, 1, 6, 0);
        x.order(1, 7);
        dueEmpty("the second one is gone", x, 4);
        dueBay("the last one", x, 31, 1, 8, 0);
    }

    private static void onlyOfTheKind() {
        GranaryLadder x = Granaries.with(0, 1, 50, 5);
        x.store(1, 0, 50);
        x.order(0, 50);
        dueBay("older grain of another kind in a lower bay", x, 0, 1, 50, 5);
        dueEmpty("the kind", x, 1);
    }

    /** An order for all sacks of the kind is filled, one for one more isn't. */
    private static void allSacksOfTheKind() {
        GranaryLadder x = Granaries.with(0, 3, 200, 1);
        x.store(31, 3, 1);
        x.store(16, 2, 200);
        CHECK.due("one more than all", -14, x.order(3, 202));
        CHECK.due("all but one", 590, x.order(3, 200));
        CHECK.due("one more than all", -14, x.order(3, 2));
        CHECK.due("the last one", 3, x.order(3, 1));
        CHECK.due("nothing is left", -14, x.order(3, 1));
        CHECK.due("sold", 201, x.account(10));
        CHECK.due("only oats", 200, x.account(3));
    }

    /** "for wheat 4 for each sack, less 1 for each 10 sacks; ..", by the order and by the price. */
    private static void coinsForEachKind() {
        int[][] due = {
            {0, 9, 36}, {0, 10, 39}, {0, 11, 43}, {0, 19, 75}, {0, 20, 78}, {0, 21, 82}, {0, 99, 387}, {0, 100, 390},
            {1, 9, 27}, {1, 10, 30}, {1, 20, 60}, {1, 200, 600},
            {2, 9, 18}, {2, 10, 20}, {2, 20, 40}, {2, 200, 400},
            {3, 10, 30}, {3, 19, 57}, {3, 20, 59}, {3, 21, 62}, {3, 39, 116}, {3, 40, 118}, {3, 41, 121},
        };
        for (int[] row : due) {
            GranaryLadder x = Granaries.with(9, row[0], 200, 0);
            CHECK.due("price of " + row[1] + " of " + row[0], row[2], x.price(row[0], row[1]));
            CHECK.due("order for " + row[1] + " of " + row[0], row[2], x.order(row[0], row[1]));
            CHECK.due("coins", 50 + row[2], x.account(1));
            CHECK.due("sold", row[1], x.account(10));
        }
        CHECK.due("a price of more than there are", 3897, new GranaryLadder().price(0, 999));
    }

    /** "There are 50 coins at first". */
    private static void fiftyCoinsAtFirst() {
        CHECK.due("at first", 50, new GranaryLadder().account(1));
        GranaryLadder x = Granaries.crackedAndEmpty();
        x.fix(32);
        CHECK.due("the last 17 of 50", 0, x.fix(16));
        CHECK.due("no coin is left", -14, x.fix(1));
        CHECK.due("2 are missing", 2, x.reason(true));
    }

    /** "Sacks that are moved into an empty bay stay as old as they are". */
    private static void movedIntoAnEmptyBay() {
        for (int weeks = 0; weeks <= 4; weeks += 4) {
            GranaryLadder x = Granaries.with(7, 3, 5, weeks);
            CHECK.due("move a part", 0, x.move(7, 6, 4));
            dueBay("moved", x, 6, 3, 4, weeks);
            dueBay("left", x, 7, 3, 1, weeks);
        }
    }

    /** "in a bay with grain of this kind all are as old as the older ones of both then". */
    private static void movedToGrainOfThisKind() {
        GranaryLadder x = Granaries.with(7, 3, 50, 6);
        x.store(6, 3, 50);
        x.store(5, 3, 50);
        x.pass(1);
        CHECK.due("young ones to old ones", 0, x.move(6, 7, 1));
        dueBay("all are as old as the old ones", x, 7, 3, 51, 7);
        dueBay("those that are left stay young", x, 6, 3, 49, 1);
        CHECK.due("old ones to young ones", 0, x.move(7, 6, 1));
        dueBay("all are as old as the old one", x, 6, 3, 50, 7);
        dueBay("those that are left stay old", x, 7, 3, 50, 7);
        CHECK.due("old ones to ones that are like them", 0, x.move(6, 7, 1));
        dueBay("all are as old as both", x, 7, 3, 51, 7);
        dueBay("another bay with this kind", x, 5, 3, 50, 1);
    }

    private static void movedWholly() {
        GranaryLadder x = Granaries.with(7, 3, 50, 6);
        x.store(6, 3, 50);
        x.move(7, 6, 50);
        dueEmpty("all of it was moved", x, 7);
        dueBay("all of it came", x, 6, 3, 100, 6);
        CHECK.due("moved so far", 50, x.account(12));
        CHECK.due("all sacks", 100, x.account(3));
    }
}
