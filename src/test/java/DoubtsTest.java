/** The sentences of "In doubt", one after the other. */
public final class DoubtsTest {
    private static final Check CHECK = new Check("doubts");

    public static void main(String[] args) {
        leaveAheadOfComing();
        staysCrackedUntilMended();
        emptyWithoutAge();
        noneYounger();
        oneSackAtLeast();
        rungOverAllBays();
        noRungsBelow();
        kindAheadOfNumber();
        coinsWithoutBound();
        allCrackAtOnce();
        CHECK.end();
    }

    /** "Sacks that are moved leave the first bay ahead of coming into the other one". */
    private static void leaveAheadOfComing() {
        for (int size = 2; size <= 32; size *= 2) {
            GranaryLadder x = Granaries.atItsLoad();
            x.take(size - 1, 1);
            x.move(0, size - 1, 1);
            CHECK.due("the rung over both has the sum that it had: " + size, 100 * size - 1, x.rungOf(size, 1));
            CHECK.due("it doesn't crack: " + size, 0, x.rungOf(size, 3));
        }
        GranaryLadder y = Granaries.atItsLoad();
        CHECK.due("all of a bay into the next one", 0, y.move(0, 1, 100));
        CHECK.due("the rung 32 bears what it bore", 3200, y.rungOf(32, 1));
        CHECK.due("none cracked", 0, y.account(14));
        GranaryLadder z = Granaries.atItsLoad();
        CHECK.due("back by one, where the rung 1 is not over both", 1, z.move(1, 0, 1));
        CHECK.due("it is the rung 1 alone", 1, z.bayOf(0, 5));
    }

    /** "A rung that is cracked stays so, whatever its sum is, until it is mended". */
    private static void staysCrackedUntilMended() {
        GranaryLadder x = Granaries.crackedAt(4);
        x.take(3, 101);
        CHECK.due("with 300 of 400", 1, x.rungOf(4, 3));
        x.order(0, 300);
        CHECK.due("with none", 1, x.rungOf(4, 3));
        x.pass(52);
        CHECK.due("a year later", 1, x.rungOf(4, 3));
        CHECK.due("sacks come again", 0, x.store(3, 2, 9));
        CHECK.due("with some again", 1, x.rungOf(4, 3));
        x.move(3, 1, 9);
        CHECK.due("with some that were moved", 1, x.rungOf(4, 3));
        x.fix(4);
        CHECK.due("mended", 0, x.rungOf(4, 3));
        CHECK.due("mended, it is sound", -14, x.fix(4));
        CHECK.due("for the reason 6", 6, x.reason(false));
    }

    private static void dueEmpty(String name, GranaryLadder x) {
        CHECK.due(name + ": no kind", -15, x.bayOf(18, 0));
        CHECK.due(name + ": no sacks", 0, x.bayOf(18, 1));
        CHECK.due(name + ": no age", 0, x.bayOf(18, 2));
        CHECK.due(name + ": nothing that spoils", 0, x.bayOf(18, 3));
        CHECK.due(name + ": it has no place", -11, x.oldest(x.account(2)));
        x.pass(3);
        CHECK.due(name + ": no age in later weeks", 0, x.bayOf(18, 2));
        CHECK.due(name + ": any kind can come", 0, x.store(18, 0, 1));
        CHECK.due(name + ": new grain", 0, x.bayOf(18, 2));
    }

    /** "A bay that gets empty has no age any more": by take, move, order and pass. */
    private static void emptyWithoutAge() {
        GranaryLadder taken = Granaries.with(18, 2, 1, 10);
        taken.take(18, 1);
        dueEmpty("taken", taken);
        GranaryLadder moved = Granaries.with(18, 2, 1, 10);
        moved.move(18, 19, 1);
        dueEmpty("moved", moved);
        GranaryLadder sold = Granaries.with(18, 2, 1, 10);
        sold.order(2, 1);
        dueEmpty("sold", sold);
        GranaryLadder spoilt = Granaries.with(18, 2, 1, 11);
        dueEmpty("spoilt", spoilt);
    }

    /** "What is stored into a bay with grain makes none of it younger". */
    private static void noneYounger() {
        GranaryLadder x = Granaries.with(18, 2, 1, 9);
        x.store(18, 2, 199);
        CHECK.due("as old as the one sack", 9, x.bayOf(18, 2));
        x.pass(1);
        x.take(18, 150);
        x.store(18, 2, 50);
        CHECK.due("and again", 10, x.bayOf(18, 2));
        CHECK.due("all of it spoils", 10, x.pass(1));
    }

    /** "The tenth that spoils is 1 sack at least". */
    private static void oneSackAtLeast() {
        for (int sacks = 1; sacks <= 10; sacks++) {
            GranaryLadder x = Granaries.with(18, 2, sacks, 10);
            CHECK.due("of " + sacks, 1, x.bayOf(18, 3));
            CHECK.due("of " + sacks, 1, x.pass(1));
        }
        CHECK.due("2 of 11", 2, Granaries.with(18, 2, 11, 10).pass(1));
        CHECK.due("none of none", 0, new GranaryLadder().pass(52));
        GranaryLadder y = Granaries.with(18, 2, 3, 10);
        CHECK.due("one after the other", 3, y.pass(52));
    }

    /** "The rung 32 is over all bays, and the one at which a climb to the bay 31 begins". */
    private static void rungOverAllBays() {
        GranaryLadder x = Granaries.crackedAt(32);
        for (int bay = 0; bay < 32; bay++) {
            CHECK.due("over " + bay, 32, x.bayOf(bay, 5));
        }
        CHECK.due("its first bay", 0, x.rungOf(32, 4));
        CHECK.due("its sum", 3201, x.rungOf(32, 1));
        CHECK.due("the climb to 31 with 31, 30, 28, 24 and 16", 6, x.steps(31));
        CHECK.due("again", 6, x.stepsAgain(31));
        CHECK.due("no other climb comes to it", 5, x.steps(30));
        CHECK.due("again", 5, x.stepsAgain(30));
        CHECK.due("a climb of one step", 1, new GranaryLadder().steps(31));
        CHECK.due("again", 1, new GranaryLadder().stepsAgain(31));
        CHECK.due("reached by it", 31, x.reach(3201));
        CHECK.due("more than it tells", -15, x.reach(3202));
    }

    /** "A rung of the size 1 has no rungs below it". */
    private static void noRungsBelow() {
        for (int rung = 1; rung <= 31; rung += 2) {
            GranaryLadder x = Granaries.crackedAt(rung);
            CHECK.due("below " + rung, 0, x.rungOf(rung, 5));
            CHECK.due("cracked, it takes one step as well: " + rung, Integer.bitCount(rung), x.steps(rung - 1));
            CHECK.due("again: " + rung, Integer.bitCount(rung), x.stepsAgain(rung - 1));
        }
    }

    /** "The kind that lies in a bay is looked at ahead of how many sacks there would be". */
    private static void kindAheadOfNumber() {
        GranaryLadder x = Granaries.with(18, 2, 200, 0);
        x.store(19, 1, 200);
        CHECK.due("another kind, and too many", -14, x.store(18, 0, 200));
        CHECK.due("the kind", 1, x.reason(false));
        CHECK.due("the kind", 2, x.reason(true));
        CHECK.due("this kind, and too many", -14, x.store(18, 2, 1));
        CHECK.due("too many", 2, x.reason(false));
        CHECK.due("another kind, and too many, moved", -14, x.move(19, 18, 200));
        CHECK.due("the kind", 1, x.reason(false));
        CHECK.due("the kind", 2, x.reason(true));
    }

    /** "Coins have no bound": as many as an object's calls can bring. */
    private static void coinsWithoutBound() {
        GranaryLadder x = new GranaryLadder();
        for (int i = 1; i <= 250; i++) {
            x.store(1, 0, 200);
            x.order(0, 200);
        }
        CHECK.due("coins", 50 + 250 * 780, x.account(1));
        CHECK.due("sold", 50000, x.account(10));
        CHECK.due("stored", 50000, x.account(8));
        CHECK.due("balanced", 1, x.isBalanced());
    }

    /** "All sound rungs crack at once, by the sums as they are then": none of them is spared by another one. */
    private static void allCrackAtOnce() {
        GranaryLadder x = Granaries.atItsLoad();
        CHECK.due("all six over the bay 0", 6, x.store(0, 0, 1));
        CHECK.due("all six over the bay 0", 63, x.bayOf(0, 5));
        GranaryLadder y = Granaries.atItsLoad();
        y.take(3, 50);
        CHECK.due("those alone whose own sums are more than their loads", 2, y.store(0, 0, 1));
        CHECK.due("the rungs 1 and 2", 3, y.bayOf(0, 5));
        GranaryLadder z = Granaries.atItsLoad();
        z.take(1, 50);
        z.store(2, 0, 50);
        CHECK.due("a rung between two that crack is spared", 5, z.store(0, 0, 1));
        CHECK.due("all but the rung 2", 61, z.bayOf(0, 5));
    }
}
