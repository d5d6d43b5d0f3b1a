/** Promises 10 to 15: sums, the bay where one is reached, the steps of climbs, each in two ways. */
public final class SumsTest {
    private static final Check CHECK = new Check("sums");
    private static final int[] OUT = {Integer.MIN_VALUE, -1, 32, 33, Integer.MAX_VALUE};

    public static void main(String[] args) {
        sums();
        wrongSums();
        reached();
        reachedByAll();
        wrongReached();
        soundSteps();
        crackedSteps();
        partlyCrackedSteps();
        wrongSteps();
        CHECK.end();
    }

    private static void dueSum(String call, int want, GranaryLadder x, int from, int to) {
        CHECK.due(call + " by the ladder", want, x.sum(from, to));
        CHECK.due(call + " by the bays", want, x.sumAgain(from, to));
    }

    private static void dueReach(String call, int want, GranaryLadder x, int sacks) {
        CHECK.due(call + " by the rungs", want, x.reach(sacks));
        CHECK.due(call + " by the bays", want, x.reachAgain(sacks));
    }

    private static void dueSteps(String call, int want, GranaryLadder x, int bay) {
        CHECK.due(call + " rung by rung", want, x.steps(bay));
        CHECK.due(call + " from small rungs on", want, x.stepsAgain(bay));
    }

    /** The bay b has b + 1 sacks, of a kind that lies four bays further again. */
    private static GranaryLadder stairs() {
        GranaryLadder x = new GranaryLadder();
        for (int bay = 0; bay < 32; bay++) {
            x.store(bay, bay % 4, bay + 1);
        }
        return x;
    }

    private static void sums() {
        GranaryLadder x = stairs();
        for (int to = 0; to < 32; to++) {
            for (int from = to; from >= 0; from -= 5) {
                int want = (to + 1) * (to + 2) / 2 - from * (from + 1) / 2;
                dueSum("sum " + from + " to " + to, want, x, from, to);
            }
        }
        x.take(31, 2);
        x.order(3, 4);
        dueSum("after an order from the lowest bay", 528 - 6, x, 0, 31);
        dueSum("of the bay 3", 0, x, 3, 3);
        dueSum("of the bay 31", 30, x, 31, 31);
    }

    private static void wrongSums() {
        GranaryLadder x = stairs();
        for (int bay : OUT) {
            dueSum("sum from " + bay, -11, x, bay, 0);
            dueSum("sum to " + bay, -11, x, 0, bay);
            dueSum("sum from 31 to " + bay, -11, x, 31, bay);
        }
        dueSum("sum 1 to 0", -12, x, 1, 0);
        dueSum("sum 31 to 30", -12, x, 31, 30);
    }

    private static void reached() {
        GranaryLadder x = stairs();
        for (int bay = 0; bay < 32; bay++) {
            int ahead = bay * (bay + 1) / 2;
            dueReach("first of bay " + bay, bay, x, ahead + 1);
            dueReach("last of bay " + bay, bay, x, ahead + bay + 1);
        }
        dueReach("more than all", -15, x, 529);
        x.take(0, 1);
        dueReach("the first bay is empty", 1, x, 1);
        x.take(31, 32);
        dueReach("the last bay is empty", 30, x, 495);
        dueReach("more than all", -15, x, 496);
    }

    private static void reachedByAll() {
        GranaryLadder x = new GranaryLadder();
        dueReach("in an empty granary", -15, x, 1);
        dueReach("in an empty granary", -15, x, 9999);
        for (int bay = 0; bay < 32; bay++) {
            x.store(bay, 1, 200);
        }
        dueReach("all", 31, x, 6400);
        dueReach("one more than all", -15, x, 6401);
        dueReach("half of all", 15, x, 3200);
        dueReach("one more than half", 16, x, 3201);
    }

    private static void wrongReached() {
        GranaryLadder x = stairs();
        dueReach("0", -12, x, 0);
        dueReach("-1", -12, x, -1);
        dueReach("10000", -12, x, 10000);
        dueReach("9999", -15, x, 9999);
        dueReach("the least number", -12, x, Integer.MIN_VALUE);
        dueReach("the greatest number", -12, x, Integer.MAX_VALUE);
    }

    private static void soundSteps() {
        GranaryLadder x = stairs();
        for (int bay = 0; bay < 32; bay++) {
            dueSteps("steps to " + bay, Integer.bitCount(bay + 1), x, bay);
        }
    }

    private static void crackedSteps() {
        GranaryLadder x = new GranaryLadder();
        for (int bay = 0; bay < 32; bay++) {
            x.store(bay, 0, 200);
        }
        for (int bay = 0; bay < 32; bay++) {
            dueSteps("cracked: each bay is looked into: " + bay, bay + 1, x, bay);
        }
    }

    private static void partlyCrackedSteps() {
        GranaryLadder x = new GranaryLadder();
        int[] filled = {1, 3, 5, 6, 7};
        for (int bay : filled) {
            x.store(bay, 0, 200);
        }
        CHECK.due("rung 4 has 400", 0, x.rungOf(4, 3));
        CHECK.due("rung 7 has 200", 1, x.rungOf(7, 3));
        CHECK.due("rung 8 has 1000", 1, x.rungOf(8, 3));
        CHECK.due("rung 16 has 1000", 0, x.rungOf(16, 3));
        dueSteps("8 is cracked, with 7 of the size 1, and sound 6 and 4", 4, x, 7);
        dueSteps("8 and 9", 5, x, 8);
        dueSteps("16", 1, x, 15);
        x.store(0, 0, 1);
        CHECK.due("rung 4 has 401", 1, x.rungOf(4, 3));
        CHECK.due("rung 2 has 201", 1, x.rungOf(2, 3));
        dueSteps("4 with 3 and 2, 2 with 1", 4, x, 3);
        dueSteps("8 with 7, 6 and 4", 7, x, 7);
        dueSteps("7, 6 and 4", 6, x, 6);
        dueSteps("3 and 2", 3, x, 2);
    }

    private static void wrongSteps() {
        GranaryLadder x = stairs();
        for (int bay : OUT) {
            dueSteps("steps to " + bay, -11, x, bay);
        }
    }
}
