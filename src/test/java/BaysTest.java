/** Promises 1 to 9: a new object, the changes of bays and rungs, the numbers of bays and rungs. */
public final class BaysTest {
    private static final Check CHECK = new Check("bays");
    private static final int[] OUT = {Integer.MIN_VALUE, -33, -1, Integer.MAX_VALUE};

    public static void main(String[] args) {
        newObject();
        storing();
        storingRefused();
        cracking();
        taking();
        takingRefused();
        moving();
        movingRefused();
        movingUnderOneRung();
        ordering();
        orderingRefused();
        mending();
        mendingRefused();
        mendingWithoutCoins();
        passing();
        passingEmpties();
        bayNumbers();
        rungNumbers();
        CHECK.end();
    }

    private static void newObject() {
        GranaryLadder x = new GranaryLadder();
        for (int bay = 0; bay < 32; bay++) {
            CHECK.due("new: kind in " + bay, -15, x.bayOf(bay, 0));
            CHECK.due("new: sacks in " + bay, 0, x.bayOf(bay, 1));
            CHECK.due("new: age in " + bay, 0, x.bayOf(bay, 2));
            CHECK.due("new: cracked over " + bay, 0, x.bayOf(bay, 5));
            CHECK.due("new: sum of " + (bay + 1), 0, x.rungOf(bay + 1, 1));
        }
        for (int what = 0; what <= 17; what++) {
            CHECK.due("new: account " + what, what == 1 ? 50 : 0, x.account(what));
        }
        CHECK.due("new: a second one is another one", 0, oneStoredInAnother(x));
    }

    private static int oneStoredInAnother(GranaryLadder one) {
        new GranaryLadder().store(0, 0, 200);
        return one.account(3);
    }

    private static void storing() {
        GranaryLadder x = new GranaryLadder();
        CHECK.due("store the least", 0, x.store(0, 0, 1));
        CHECK.due("store in the last bay", 0, x.store(31, 3, 100));
        CHECK.due("store the most", 1, x.store(30, 2, 200));
        CHECK.due("kind", 3, x.bayOf(31, 0));
        CHECK.due("sacks", 100, x.bayOf(31, 1));
        CHECK.due("store to 200", 1, x.store(0, 0, 199));
        CHECK.due("sacks", 200, x.bayOf(0, 1));
        x.store(5, 1, 10);
        x.pass(3);
        CHECK.due("store to old grain", 0, x.store(5, 1, 60));
        CHECK.due("as old as what lies there", 3, x.bayOf(5, 2));
        CHECK.due("store in an empty bay", 0, x.store(6, 1, 10));
        CHECK.due("new grain", 0, x.bayOf(6, 2));
        x.take(5, 70);
        x.store(5, 2, 9);
        CHECK.due("new grain in a bay that was emptied", 0, x.bayOf(5, 2));
        CHECK.due("of a new kind", 2, x.bayOf(5, 0));
    }

    private static void storingRefused() {
        GranaryLadder x = new GranaryLadder();
        for (int bay : OUT) {
            CHECK.due("store in bay " + bay, -11, x.store(bay, 0, 1));
            CHECK.due("no bay ahead of a bad kind", -11, x.store(bay, 9, 0));
            CHECK.due("store kind " + bay, -12, x.store(0, bay, 1));
        }
        CHECK.due("store in bay 32", -11, x.store(32, 0, 1));
        CHECK.due("store kind 4", -12, x.store(0, 4, 1));
        CHECK.due("store 0", -12, x.store(0, 0, 0));
        CHECK.due("store 201", -12, x.store(0, 0, 201));
        CHECK.due("store less than none", -12, x.store(0, 0, Integer.MIN_VALUE));
        CHECK.due("nothing is refused", -15, x.reason(false));
        x.store(7, 2, 150);
        CHECK.due("bad ahead of reasons", -12, x.store(7, 1, 201));
        CHECK.due("another kind", -14, x.store(7, 1, 100));
        CHECK.due("reason", 1, x.reason(false));
        CHECK.due("detail", 2, x.reason(true));
        CHECK.due("too many", -14, x.store(7, 2, 53));
        CHECK.due("reason", 2, x.reason(false));
        CHECK.due("detail", 3, x.reason(true));
        CHECK.due("unchanged", 150, x.bayOf(7, 1));
        CHECK.due("unchanged", 150, x.account(8));
        CHECK.due("no change", 1, x.account(17));
    }

    private static void cracking() {
        GranaryLadder x = new GranaryLadder();
        CHECK.due("a load is borne", 0, x.store(2, 0, 100));
        CHECK.due("one more cracks", 1, x.store(2, 0, 1));
        CHECK.due("the rung 3", 1, x.rungOf(3, 3));
        CHECK.due("a cracked one doesn't crack again", 0, x.store(2, 0, 50));
        CHECK.due("cracked so far", 1, x.account(14));
        x.take(2, 151);
        CHECK.due("stays cracked", 1, x.rungOf(3, 3));
        x.fix(3);
        CHECK.due("mended", 0, x.rungOf(3, 3));
        CHECK.due("cracks anew", 1, x.store(2, 0, 101));
        CHECK.due("cracked so far", 2, x.account(14));
        CHECK.due("cracked now", 1, x.account(13));
        GranaryLadder y = new GranaryLadder();
        y.store(1, 0, 200);
        y.store(3, 0, 200);
        CHECK.due("three crack at once", 3, y.store(0, 0, 101));
        CHECK.due("the rungs 1, 2 and 4", 7, y.bayOf(0, 5));
    }

    private static void taking() {
        GranaryLadder x = new GranaryLadder();
        x.store(4, 1, 20);
        x.pass(2);
        CHECK.due("take", 15, x.take(4, 5));
        CHECK.due("as old", 2, x.bayOf(4, 2));
        CHECK.due("sum", 15, x.rungOf(8, 1));
        CHECK.due("take the rest", 0, x.take(4, 15));
        CHECK.due("empty", -15, x.bayOf(4, 0));
        CHECK.due("no age", 0, x.bayOf(4, 2));
        CHECK.due("taken", 20, x.account(9));
        x.store(4, 1, 200);
        CHECK.due("take the most", 0, x.take(4, 200));
    }

    private static void takingRefused() {
        GranaryLadder x = new GranaryLadder();
        for (int bay : OUT) {
            CHECK.due("take from bay " + bay, -11, x.take(bay, 0));
        }
        CHECK.due("take from bay 32", -11, x.take(32, 1));
        CHECK.due("take 0", -12, x.take(31, 0));
        CHECK.due("take 201", -12, x.take(31, 201));
        CHECK.due("take less than none", -12, x.take(31, -1));
        CHECK.due("take from an empty bay", -14, x.take(31, 200));
        CHECK.due("reason", 8, x.reason(false));
        CHECK.due("detail", 31, x.reason(true));
        x.store(31, 0, 6);
        CHECK.due("take too many", -14, x.take(31, 7));
        CHECK.due("reason", 3, x.reason(false));
        CHECK.due("detail", 6, x.reason(true));
        CHECK.due("taken", 0, x.account(9));
    }

    private static void moving() {
        GranaryLadder x = new GranaryLadder();
        x.store(10, 2, 90);
        x.pass(4);
        CHECK.due("move to an empty bay", 0, x.move(10, 20, 40));
        CHECK.due("left", 50, x.bayOf(10, 1));
        CHECK.due("moved", 40, x.bayOf(20, 1));
        CHECK.due("kind", 2, x.bayOf(20, 0));
        CHECK.due("as old", 4, x.bayOf(20, 2));
        x.store(21, 2, 90);
        x.pass(1);
        CHECK.due("move young to old", 0, x.move(21, 20, 50));
        CHECK.due("the older age", 5, x.bayOf(20, 2));
        CHECK.due("the young ones stay young", 1, x.bayOf(21, 2));
        CHECK.due("move old to young", 0, x.move(20, 21, 90));
        CHECK.due("the older age", 5, x.bayOf(21, 2));
        CHECK.due("the first bay is empty", -15, x.bayOf(20, 0));
        CHECK.due("without age", 0, x.bayOf(20, 2));
        CHECK.due("moved so far", 180, x.account(12));
        CHECK.due("all sacks", 180, x.account(3));
        CHECK.due("sum ahead", 50, x.sum(0, 19));
        CHECK.due("sum behind", 130, x.sum(20, 31));
        CHECK.due("bays with grain", 2, x.account(2));
    }

    private static void movingRefused() {
        GranaryLadder x = new GranaryLadder();
        for (int bay : OUT) {
            CHECK.due("move from bay " + bay, -11, x.move(bay, 0, 0));
            CHECK.due("move to bay " + bay, -11, x.move(0, bay, 0));
        }
        CHECK.due("move from bay 32", -11, x.move(32, 0, 1));
        CHECK.due("move to bay 32", -11, x.move(0, 32, 1));
        CHECK.due("move 0", -12, x.move(3, 3, 0));
        CHECK.due("move 201", -12, x.move(3, 3, 201));
        CHECK.due("same bay ahead of empty", -14, x.move(3, 3, 1));
        CHECK.due("reason", 4, x.reason(false));
        CHECK.due("detail", 3, x.reason(true));
        CHECK.due("empty", -14, x.move(3, 4, 1));
        CHECK.due("reason", 8, x.reason(false));
        CHECK.due("detail", 3, x.reason(true));
        x.store(3, 1, 30);
        x.store(4, 3, 190);
        CHECK.due("too few ahead of another kind", -14, x.move(3, 4, 31));
        CHECK.due("reason", 3, x.reason(false));
        CHECK.due("detail", 30, x.reason(true));
        CHECK.due("another kind ahead of too many", -14, x.move(3, 4, 30));
        CHECK.due("reason", 1, x.reason(false));
        CHECK.due("detail", 3, x.reason(true));
        x.store(5, 3, 15);
        CHECK.due("too many", -14, x.move(5, 4, 12));
        CHECK.due("reason", 2, x.reason(false));
        CHECK.due("detail", 2, x.reason(true));
        CHECK.due("to the brim", 0, x.move(5, 4, 10));
        CHECK.due("moved so far", 10, x.account(12));
    }

    private static void movingUnderOneRung() {
        GranaryLadder x = new GranaryLadder();
        x.store(0, 0, 100);
        x.store(1, 0, 100);
        CHECK.due("the rungs over both have the sum that they had", 0, x.move(0, 1, 100));
        CHECK.due("rung 2", 0, x.rungOf(2, 3));
        CHECK.due("sum", 200, x.rungOf(2, 1));
        x.store(2, 0, 100);
        CHECK.due("the rung over the other one alone cracks", 1, x.move(2, 0, 1));
        CHECK.due("it is the rung 2", 1, x.rungOf(2, 3));
    }

    private static void ordering() {
        GranaryLadder x = new GranaryLadder();
        x.store(9, 0, 30);
        x.pass(1);
        x.store(8, 0, 40);
        x.store(3, 0, 50);
        x.store(2, 1, 60);
        CHECK.due("order from the oldest", 117, x.order(0, 30));
        CHECK.due("the oldest is gone", 0, x.bayOf(9, 1));
        CHECK.due("then the lowest bay, not the one with more", 0, x.bayOf(9, 2));
        CHECK.due("order more", 195, x.order(0, 50));
        CHECK.due("the lowest is gone", 0, x.bayOf(3, 1));
        CHECK.due("the next one stays", 40, x.bayOf(8, 1));
        CHECK.due("order a part", 4, x.order(0, 1));
        CHECK.due("a part", 39, x.bayOf(8, 1));
        CHECK.due("another kind stays", 60, x.bayOf(2, 1));
        CHECK.due("rye", 30, x.order(1, 10));
        CHECK.due("coins", 50 + 117 + 195 + 4 + 30, x.account(1));
        CHECK.due("sold", 91, x.account(10));
        CHECK.due("sum", 89, x.sum(0, 31));
        GranaryLadder y = new GranaryLadder();
        for (int bay = 0; bay < 32; bay++) {
            y.store(bay, 3, 200);
        }
        CHECK.due("the most", 2948, y.order(3, 999));
        CHECK.due("five bays", 1, y.bayOf(4, 1));
    }

    private static void orderingRefused() {
        GranaryLadder x = new GranaryLadder();
        x.store(1, 0, 10);
        x.store(6, 0, 7);
        x.store(7, 1, 50);
        CHECK.due("kind -1", -12, x.order(-1, 1));
        CHECK.due("kind 4", -12, x.order(4, 1));
        CHECK.due("0 sacks", -12, x.order(0, 0));
        CHECK.due("1000 sacks", -12, x.order(0, 1000));
        CHECK.due("too few", -14, x.order(0, 18));
        CHECK.due("reason", 3, x.reason(false));
        CHECK.due("detail", 17, x.reason(true));
        CHECK.due("none at all", -14, x.order(3, 999));
        CHECK.due("detail", 0, x.reason(true));
        CHECK.due("all of them", 67, x.order(0, 17));
        CHECK.due("only the rye", 50, x.account(3));
    }

    private static void mending() {
        GranaryLadder x = Check.withCrackedCorner();
        for (int bay = 0; bay < 4; bay++) {
            x.take(bay, 100);
        }
        CHECK.due("fix 1", 48, x.fix(1));
        CHECK.due("fix 2", 45, x.fix(2));
        CHECK.due("fix 3", 43, x.fix(3));
        CHECK.due("fix 4", 38, x.fix(4));
        CHECK.due("all are sound", 0, x.account(13));
        CHECK.due("cost", 12, x.account(15));
        CHECK.due("coins", 38, x.account(1));
        CHECK.due("cracks so far", 4, x.account(14));
    }

    private static void mendingRefused() {
        GranaryLadder x = Check.withCrackedCorner();
        for (int rung : OUT) {
            CHECK.due("fix " + rung, -11, x.fix(rung));
        }
        CHECK.due("fix 0", -11, x.fix(0));
        CHECK.due("fix 33", -11, x.fix(33));
        CHECK.due("sound", -14, x.fix(32));
        CHECK.due("reason", 6, x.reason(false));
        CHECK.due("detail", 32, x.reason(true));
        CHECK.due("laden", -14, x.fix(4));
        CHECK.due("reason", 7, x.reason(false));
        CHECK.due("detail", 400, x.reason(true));
        x.take(0, 99);
        CHECK.due("laden by one", -14, x.fix(1));
        CHECK.due("detail", 1, x.reason(true));
        x.take(0, 1);
        CHECK.due("not laden", 48, x.fix(1));
    }

    private static void mendingWithoutCoins() {
        GranaryLadder x = new GranaryLadder();
        for (int bay = 0; bay < 32; bay++) {
            x.store(bay, bay == 31 ? 1 : 0, 200);
        }
        CHECK.due("all are cracked", 32, x.account(13));
        CHECK.due("laden ahead of coins", -14, x.fix(32));
        CHECK.due("detail", 3200, x.reason(true));
        for (int bay = 0; bay < 32; bay++) {
            x.take(bay, 200 - (bay == 31 ? 1 : 0));
        }
        CHECK.due("fix 32", 17, x.fix(32));
        CHECK.due("fix 16", 0, x.fix(16));
        CHECK.due("without coins", -14, x.fix(8));
        CHECK.due("reason", 5, x.reason(false));
        CHECK.due("detail", 9, x.reason(true));
        CHECK.due("order", 3, x.order(1, 1));
        CHECK.due("too few coins", -14, x.fix(8));
        CHECK.due("detail", 6, x.reason(true));
        CHECK.due("just enough", 0, x.fix(2));
        CHECK.due("cost", 53, x.account(15));
    }

    private static void passing() {
        int[] keeps = {20, 15, 10, 12};
        for (int kind = 0; kind < 4; kind++) {
            GranaryLadder x = new GranaryLadder();
            x.store(kind, kind, 91);
            CHECK.due("kept: " + kind, 0, x.pass(keeps[kind]));
            CHECK.due("age", keeps[kind], x.bayOf(kind, 2));
            CHECK.due("spoils: " + kind, 10, x.pass(1));
            CHECK.due("left", 81, x.sum(0, 31));
            CHECK.due("spoils: " + kind, 9 + 8, x.pass(2));
            CHECK.due("spoilt", 27, x.account(11));
            CHECK.due("weeks", keeps[kind] + 3, x.account(0));
        }
        GranaryLadder y = new GranaryLadder();
        CHECK.due("pass 0", -12, y.pass(0));
        CHECK.due("pass -1", -12, y.pass(-1));
        CHECK.due("pass 53", -12, y.pass(53));
        CHECK.due("pass the most", 0, y.pass(52));
        CHECK.due("weeks", 52, y.account(0));
        CHECK.due("an empty bay has no age", 0, y.bayOf(0, 2));
        y.store(0, 2, 10);
        CHECK.due("it doesn't get older by earlier weeks", 0, y.pass(10));
    }

    private static void passingEmpties() {
        GranaryLadder x = new GranaryLadder();
        x.store(17, 2, 2);
        CHECK.due("one sack at least", 1, x.pass(11));
        CHECK.due("age", 11, x.bayOf(17, 2));
        CHECK.due("the last one", 1, x.pass(1));
        CHECK.due("empty", -15, x.bayOf(17, 0));
        CHECK.due("no age", 0, x.bayOf(17, 2));
        CHECK.due("no bays with grain", 0, x.account(2));
        CHECK.due("rung", 0, x.rungOf(32, 1));
        x.store(17, 0, 1);
        CHECK.due("new grain", 0, x.bayOf(17, 2));
    }

    private static void bayNumbers() {
        GranaryLadder x = Check.withCrackedCorner();
        for (int bay : OUT) {
            CHECK.due("bay " + bay, -11, x.bayOf(bay, 9));
        }
        CHECK.due("bay 32", -11, x.bayOf(32, 0));
        CHECK.due("what -1", -12, x.bayOf(0, -1));
        CHECK.due("what 6", -12, x.bayOf(0, 6));
        int[] over = {6, 5, 5, 4, 5, 4, 4, 3, 5, 4, 4, 3, 4, 3, 3, 2};
        for (int bay = 0; bay < 32; bay++) {
            int less = bay < 16 ? 0 : 1;
            CHECK.due("rungs over " + bay, over[bay % 16] - less, x.bayOf(bay, 4));
        }
        CHECK.due("cracked over 0", 7, x.bayOf(0, 5));
        CHECK.due("cracked over 1", 6, x.bayOf(1, 5));
        CHECK.due("cracked over 2", 5, x.bayOf(2, 5));
        CHECK.due("cracked over 3", 4, x.bayOf(3, 5));
        CHECK.due("cracked over 4", 0, x.bayOf(4, 5));
        x.pass(19);
        CHECK.due("none spoils in the next week", 0, x.bayOf(0, 3));
        x.pass(1);
        CHECK.due("spoils in the next week", 20, x.bayOf(0, 3));
        x.take(0, 199);
        CHECK.due("one at least", 1, x.bayOf(0, 3));
        CHECK.due("none of an empty bay", 0, x.bayOf(9, 3));
    }

    private static void rungNumbers() {
        GranaryLadder x = Check.withCrackedCorner();
        for (int rung : OUT) {
            CHECK.due("rung " + rung, -11, x.rungOf(rung, 9));
        }
        CHECK.due("rung 0", -11, x.rungOf(0, 0));
        CHECK.due("rung 33", -11, x.rungOf(33, 0));
        CHECK.due("what -1", -12, x.rungOf(1, -1));
        CHECK.due("what 6", -12, x.rungOf(32, 6));
        int[] below = new int[33];
        below[2] = 1;
        below[4] = 2;
        below[8] = 3;
        below[16] = 4;
        below[32] = 5;
        for (int rung = 1; rung <= 32; rung++) {
            int size = 1;
            while (rung % (2 * size) == 0) {
                size *= 2;
            }
            CHECK.due("size of " + rung, size, x.rungOf(rung, 0));
            CHECK.due("load of " + rung, 100 * size, x.rungOf(rung, 2));
            CHECK.due("first bay of " + rung, rung - size, x.rungOf(rung, 4));
            CHECK.due("rungs below " + rung, below[size], x.rungOf(rung, 5));
            CHECK.due("cracked " + rung, rung <= 4 ? 1 : 0, x.rungOf(rung, 3));
        }
        CHECK.due("sum of 2", 400, x.rungOf(2, 1));
        CHECK.due("sum of 3", 200, x.rungOf(3, 1));
        CHECK.due("sum of 5", 0, x.rungOf(5, 1));
        CHECK.due("sum of 32", 800, x.rungOf(32, 1));
    }
}
