/** Promises 16 to 20: orders of bays and rungs, where to store, prices. */
public final class PlacesTest {
    private static final Check CHECK = new Check("places");

    public static void main(String[] args) {
        oldest();
        commonAge();
        tightest();
        greatestRung();
        bestBay();
        bestBayByRungs();
        wrongBestBay();
        prices();
        CHECK.end();
    }

    private static void oldest() {
        GranaryLadder x = new GranaryLadder();
        CHECK.due("none in an empty granary", -11, x.oldest(0));
        x.store(20, 1, 5);
        x.pass(1);
        x.store(12, 0, 9);
        x.store(3, 0, 8);
        x.store(7, 2, 9);
        x.pass(1);
        x.store(0, 3, 200);
        int[] want = {20, 7, 12, 3, 0};
        for (int place = 0; place < want.length; place++) {
            CHECK.due("place " + place, want[place], x.oldest(place));
        }
        CHECK.due("place 5", -11, x.oldest(5));
        CHECK.due("place -1", -11, x.oldest(-1));
        CHECK.due("the least place", -11, x.oldest(Integer.MIN_VALUE));
        CHECK.due("the greatest place", -11, x.oldest(Integer.MAX_VALUE));
        for (int bay = 0; bay < 32; bay++) {
            x.take(bay, x.bayOf(bay, 1));
            x.store(bay, 1, 4);
        }
        CHECK.due("of like ones the lowest is first", 0, x.oldest(0));
        CHECK.due("and the highest is last", 31, x.oldest(31));
        CHECK.due("place 32", -11, x.oldest(32));
    }

    private static void commonAge() {
        GranaryLadder x = new GranaryLadder();
        CHECK.due("without grain", -15, x.commonAge());
        x.store(0, 0, 30);
        CHECK.due("0 weeks", 0, x.commonAge());
        x.pass(2);
        CHECK.due("2 weeks", 2, x.commonAge());
        x.store(1, 1, 20);
        x.store(31, 2, 10);
        CHECK.due("as many are new", 0, x.commonAge());
        x.take(31, 1);
        CHECK.due("fewer are new", 2, x.commonAge());
        x.pass(1);
        x.store(5, 3, 30);
        CHECK.due("the youngest of like ones", 0, x.commonAge());
        x.take(5, 2);
        CHECK.due("30 are 3 weeks old, 29 one week, 28 new", 3, x.commonAge());
        x.store(1, 1, 1);
        CHECK.due("the younger of like ones", 1, x.commonAge());
        x.order(0, 30);
        CHECK.due("29 and 28 are left", 1, x.commonAge());
        GranaryLadder y = new GranaryLadder();
        y.store(9, 2, 1);
        y.pass(3);
        CHECK.due("a single sack", 3, y.commonAge());
        y.store(4, 2, 1);
        CHECK.due("the youngest, of which the bay is lower", 0, y.commonAge());
    }

    private static void tightest() {
        GranaryLadder x = new GranaryLadder();
        CHECK.due("of like ones the lowest", 1, x.tightest());
        x.store(2, 0, 5);
        CHECK.due("the rung 3", 3, x.tightest());
        x.store(4, 0, 5);
        CHECK.due("still the lowest", 3, x.tightest());
        x.store(4, 0, 1);
        CHECK.due("the rung 5", 5, x.tightest());
        x.store(4, 0, 94);
        CHECK.due("without any room", 5, x.tightest());
        x.store(4, 0, 1);
        CHECK.due("cracked ones don't count", 3, x.tightest());
        x.store(5, 0, 98);
        CHECK.due("198 of 200", 6, x.tightest());
    }

    /** All rungs but the greatest one are cracked, which has room for 84 sacks still. */
    private static GranaryLadder withoutRungsButOne() {
        GranaryLadder x = new GranaryLadder();
        for (int bay = 0; bay < 31; bay++) {
            x.store(bay, 0, bay % 2 == 0 ? 101 : 100);
        }
        return x;
    }

    private static void greatestRung() {
        GranaryLadder x = withoutRungsButOne();
        CHECK.due("31 are cracked", 31, x.account(13));
        CHECK.due("the rung 32 alone is sound", 32, x.tightest());
        CHECK.due("its sum", 3116, x.rungOf(32, 1));
        CHECK.due("the rung 32 bears 84", 0, x.bestBay(0, 84));
        CHECK.due("the rung 32 bears 84", 31, x.bestBay(1, 84));
        CHECK.due("the rung 32 doesn't bear 85", -15, x.bestBay(0, 85));
        CHECK.due("the rung 32 doesn't bear 85", -15, x.bestBay(1, 85));
        CHECK.due("to its load", 0, x.store(31, 1, 84));
        CHECK.due("it is sound", 32, x.tightest());
        CHECK.due("and more", 1, x.store(31, 1, 1));
        CHECK.due("all are cracked", -15, x.tightest());
        CHECK.due("the set over the bay 31", 32, x.bayOf(31, 5));
        CHECK.due("the set over the bay 0", 63, x.bayOf(0, 5));
        CHECK.due("all that is cracked bears all", 31, x.bestBay(1, 115));
        CHECK.due("but no bay has more than 200", -15, x.bestBay(1, 116));
    }

    private static void bestBay() {
        GranaryLadder x = new GranaryLadder();
        CHECK.due("the lowest empty one", 0, x.bestBay(2, 1));
        CHECK.due("101 aren't borne by the rung 1", 1, x.bestBay(2, 101));
        CHECK.due("200 are borne by the rung 2", 1, x.bestBay(2, 200));
        x.store(20, 2, 90);
        CHECK.due("where the kind lies", 20, x.bestBay(2, 10));
        CHECK.due("the rung 21 would crack", 0, x.bestBay(2, 11));
        CHECK.due("another kind", 0, x.bestBay(1, 10));
        x.store(24, 2, 10);
        CHECK.due("the lowest where the kind lies", 20, x.bestBay(2, 10));
        CHECK.due("the second one where the kind lies", 24, x.bestBay(2, 11));
        x.store(0, 1, 50);
        CHECK.due("bays with another kind aren't empty", 1, x.bestBay(3, 1));
        x.store(23, 2, 199);
        CHECK.due("to the brim of the lowest", 20, x.bestBay(2, 1));
        CHECK.due("unchanged", 199 + 50 + 10 + 90, x.account(3));
    }

    private static void bestBayByRungs() {
        GranaryLadder x = new GranaryLadder();
        x.store(6, 3, 150);
        CHECK.due("a cracked rung cracks no more", 6, x.bestBay(3, 50));
        CHECK.due("201 don't fit", 0, x.bestBay(3, 51));
        x.store(7, 0, 200);
        CHECK.due("rung 8 has 350 and bears 800", 6, x.bestBay(3, 50));
        GranaryLadder y = new GranaryLadder();
        for (int bay = 0; bay < 32; bay++) {
            y.store(bay, 0, 100);
        }
        CHECK.due("all is full to its load", -15, y.bestBay(0, 1));
        y.take(9, 100);
        CHECK.due("the empty one", 9, y.bestBay(1, 100));
        CHECK.due("more than the rung bears", -15, y.bestBay(1, 101));
        CHECK.due("the kind's rungs bear some now", -15, y.bestBay(0, 101));
        y.store(9, 1, 50);
        CHECK.due("another kind in all but one", -15, y.bestBay(2, 1));
        CHECK.due("where the kind lies", 9, y.bestBay(1, 50));
    }

    private static void wrongBestBay() {
        GranaryLadder x = new GranaryLadder();
        CHECK.due("kind -1", -12, x.bestBay(-1, 1));
        CHECK.due("kind 4", -12, x.bestBay(4, 1));
        CHECK.due("0 sacks", -12, x.bestBay(0, 0));
        CHECK.due("201 sacks", -12, x.bestBay(0, 201));
        CHECK.due("the greatest number", -12, x.bestBay(3, Integer.MAX_VALUE));
    }

    private static void prices() {
        GranaryLadder x = new GranaryLadder();
        int[][] due = {
            {0, 1, 4}, {0, 9, 36}, {0, 10, 39}, {0, 19, 75}, {0, 20, 78}, {0, 999, 3897},
            {1, 1, 3}, {1, 10, 30}, {1, 999, 2997},
            {2, 1, 2}, {2, 20, 40}, {2, 999, 1998},
            {3, 1, 3}, {3, 19, 57}, {3, 20, 59}, {3, 40, 118}, {3, 999, 2948},
        };
        for (int[] row : due) {
            CHECK.due("price of " + row[1] + " of the kind " + row[0], row[2], x.price(row[0], row[1]));
        }
        CHECK.due("kind -1", -12, x.price(-1, 1));
        CHECK.due("kind 4", -12, x.price(4, 1));
        CHECK.due("0 sacks", -12, x.price(0, 0));
        CHECK.due("1000 sacks", -12, x.price(0, 1000));
        CHECK.due("the least number", -12, x.price(2, Integer.MIN_VALUE));
        CHECK.due("coins", 50, x.account(1));
    }
}
