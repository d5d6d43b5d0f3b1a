/** The sentences of "Terms" about the ladder and climbing, one after the other. */
public final class LadderTest {
    private static final Check CHECK = new Check("ladder");
    private static final int[] SIZES = {1, 2, 4, 8, 16, 32};

    public static void main(String[] args) {
        sizes();
        sumsOfTheirBaysAlone();
        loads();
        soundAtFirst();
        cracksIfMoreThanItsLoad();
        cracksBySacksThatAreMoved();
        alreadyCracked();
        notCrackedByWhatLeaves();
        costsOfMending();
        mendedAtItsLoad();
        mendedWithTheLastCoin();
        setsOfCrackedRungs();
        stepsOfSoundRungs();
        stepsOfCrackedRungs();
        stepsOfOneCrackedRung();
        stepsOfCrackedRungsInOneAnother();
        sumsOverCrackedRungs();
        CHECK.end();
    }

    private static boolean isOver(int rung, int bay) {
        return bay < rung && bay >= rung - Granaries.sizeOf(rung);
    }

    private static int logarithm(int size) {
        return Integer.numberOfTrailingZeros(size);
    }

    private static void dueSteps(String name, int want, GranaryLadder x, int bay) {
        CHECK.due(name + ": steps(" + bay + ")", want, x.steps(bay));
        CHECK.due(name + ": stepsAgain(" + bay + ")", want, x.stepsAgain(bay));
    }

    /** "the greatest power of 2 by which its number can be divided". */
    private static void sizes() {
        GranaryLadder x = new GranaryLadder();
        for (int rung = 1; rung <= 32; rung++) {
            CHECK.due("size of " + rung, Granaries.sizeOf(rung), x.rungOf(rung, 0));
            CHECK.due("rungs below " + rung, logarithm(Granaries.sizeOf(rung)), x.rungOf(rung, 5));
        }
        CHECK.due("the greatest size", 32, x.rungOf(32, 0));
        CHECK.due("the least size, of the last one but one", 1, x.rungOf(31, 0));
    }

    /** "the sum of the sacks in as many bays as its size, of which the last one is the bay r less 1". */
    private static void sumsOfTheirBaysAlone() {
        for (int bay = 0; bay < 32; bay++) {
            GranaryLadder x = Granaries.with(bay, 0, 3, 0);
            int over = 0;
            for (int rung = 1; rung <= 32; rung++) {
                CHECK.due("sum of " + rung + " with grain in " + bay, isOver(rung, bay) ? 3 : 0, x.rungOf(rung, 1));
                CHECK.due("first bay of " + rung, rung - Granaries.sizeOf(rung), x.rungOf(rung, 4));
                over += isOver(rung, bay) ? 1 : 0;
            }
            CHECK.due("rungs over " + bay, over, x.bayOf(bay, 4));
        }
        CHECK.due("the sum of an empty granary", 0, new GranaryLadder().rungOf(32, 1));
        CHECK.due("the sum of a full granary", 6400, Granaries.full().rungOf(32, 1));
    }

    /** "Its load is 100 times its size". */
    private static void loads() {
        GranaryLadder x = new GranaryLadder();
        for (int size : SIZES) {
            CHECK.due("load of the size " + size, 100 * size, x.rungOf(size, 2));
        }
        CHECK.due("load of 31", 100, x.rungOf(31, 2));
    }

    /** "A rung is sound, as at first, or cracked". */
    private static void soundAtFirst() {
        GranaryLadder x = new GranaryLadder();
        GranaryLadder full = Granaries.full();
        for (int rung = 1; rung <= 32; rung++) {
            CHECK.due("sound at first: " + rung, 0, x.rungOf(rung, 3));
            CHECK.due("cracked under full bays: " + rung, 1, full.rungOf(rung, 3));
        }
        CHECK.due("none is cracked", 0, x.account(13));
        CHECK.due("all are cracked", 32, full.account(13));
    }

    /** "each sound rung over it whose sum is more than its load then cracks", by being stored: in each bay. */
    private static void cracksIfMoreThanItsLoad() {
        GranaryLadder borne = Granaries.atItsLoad();
        CHECK.due("none cracks under just its load", 0, borne.account(14));
        for (int bay = 0; bay < 32; bay++) {
            GranaryLadder x = Granaries.atItsLoad();
            CHECK.due("all over " + bay + " crack under one more", x.bayOf(bay, 4), x.store(bay, 0, 1));
            for (int rung = 1; rung <= 32; rung++) {
                CHECK.due("cracked over " + bay + ": " + rung, isOver(rung, bay) ? 1 : 0, x.rungOf(rung, 3));
            }
            CHECK.due("cracked so far", x.bayOf(bay, 4), x.account(14));
            CHECK.due("cracked now", x.bayOf(bay, 4), x.account(13));
        }
    }

    /** "by being stored or moved": from each bay to each other one, where the sums are just the loads. */
    private static void cracksBySacksThatAreMoved() {
        for (int from = 0; from < 32; from++) {
            for (int to = 0; to < 32; to++) {
                if (from != to) {
                    moveOne(from, to);
                }
            }
        }
    }

    private static void moveOne(int from, int to) {
        GranaryLadder x = Granaries.atItsLoad();
        int due = 0;
        for (int rung = 1; rung <= 32; rung++) {
            due += isOver(rung, to) && !isOver(rung, from) ? 1 : 0;
        }
        CHECK.due("move from " + from + " to " + to, due, x.move(from, to, 1));
        for (int rung = 1; rung <= 32; rung++) {
            boolean isCracked = isOver(rung, to) && !isOver(rung, from);
            CHECK.due("cracked from " + from + " to " + to + ": " + rung, isCracked ? 1 : 0, x.rungOf(rung, 3));
        }
        CHECK.due("cracked so far from " + from + " to " + to, due, x.account(14));
    }

    /** "each sound rung": what is cracked is neither told nor counted again. */
    private static void alreadyCracked() {
        GranaryLadder x = Granaries.crackedAt(1);
        CHECK.due("store to a cracked rung", 0, x.store(0, 0, 1));
        CHECK.due("store to 200", 1, x.store(1, 0, 99));
        CHECK.due("it was the rung 2", 3, x.bayOf(0, 5));
        CHECK.due("cracked so far", 2, x.account(14));
        GranaryLadder y = Granaries.full();
        CHECK.due("as often as there are rungs", 32, y.account(14));
        y.take(0, 1);
        CHECK.due("all are cracked", 0, y.store(0, 0, 1));
        CHECK.due("not more often", 32, y.account(14));
    }

    /** Only what comes cracks: what is taken, sold, spoilt or moved away doesn't. */
    private static void notCrackedByWhatLeaves() {
        GranaryLadder x = Granaries.atItsLoad();
        x.take(5, 1);
        x.order(0, 101);
        x.pass(52);
        CHECK.due("none cracked", 0, x.account(14));
        CHECK.due("all are sound", 0, x.account(13));
    }

    /** "To mend a cracked rung costs as many coins as its size, and 1 more". */
    private static void costsOfMending() {
        for (int rung = 1; rung <= 32; rung++) {
            GranaryLadder x = Granaries.crackedAndEmpty();
            int cost = Granaries.sizeOf(rung) + 1;
            CHECK.due("coins left by " + rung, 50 - cost, x.fix(rung));
            CHECK.due("coins", 50 - cost, x.account(1));
            CHECK.due("cost so far", cost, x.account(15));
            CHECK.due("the rung is sound", 0, x.rungOf(rung, 3));
            CHECK.due("the others are not", 31, x.account(13));
            CHECK.due("it did crack", 32, x.account(14));
        }
    }

    /** The sum of a rung that is mended may be just its load, and not more. */
    private static void mendedAtItsLoad() {
        for (int size : SIZES) {
            GranaryLadder x = Granaries.crackedAt(size);
            CHECK.due("only one is cracked: " + size, 1, x.account(13));
            CHECK.due("one more than its load: " + size, -14, x.fix(size));
            CHECK.due("reason", 7, x.reason(false));
            CHECK.due("detail", 1, x.reason(true));
            x.take(0, 1);
            CHECK.due("just its load: " + size, 49 - size, x.fix(size));
            CHECK.due("sound: " + size, 0, x.rungOf(size, 3));
            CHECK.due("its load: " + size, x.rungOf(size, 2), x.rungOf(size, 1));
            CHECK.due("it cracks anew under one more: " + size, 1, x.store(size - 1, 0, 1));
        }
    }

    /** Just as many coins as it costs are enough; one less is not, and is told. */
    private static void mendedWithTheLastCoin() {
        for (int size : new int[] {1, 2, 4, 8}) {
            GranaryLadder x = Granaries.crackedAndEmpty();
            x.fix(32);
            x.fix(16);
            x.store(31, 1, 10);
            for (int coins = 0; coins + 3 < size + 1; coins += 3) {
                x.order(1, 1);
            }
            int missing = size + 1 - x.account(1);
            CHECK.due("too few coins for " + size, -14, x.fix(size));
            CHECK.due("reason", 5, x.reason(false));
            CHECK.due("missing", missing, x.reason(true));
            x.order(1, 1);
            CHECK.due("enough coins for " + size, 3 - missing, x.fix(size));
        }
    }

    /** "the set of those of them that are cracked, bit k for the rung with the size 2 to the k". */
    private static void setsOfCrackedRungs() {
        for (int rung = 1; rung <= 32; rung++) {
            GranaryLadder x = Granaries.crackedAt(rung);
            CHECK.due("only " + rung + " is cracked", 1, x.account(13));
            for (int bay = 0; bay < 32; bay++) {
                CHECK.due("set over " + bay, isOver(rung, bay) ? Granaries.sizeOf(rung) : 0, x.bayOf(bay, 5));
            }
        }
        CHECK.due("all over the bay 0", 63, Granaries.full().bayOf(0, 5));
        CHECK.due("all over the bay 31", 32, Granaries.full().bayOf(31, 5));
        CHECK.due("all over the bay 30", 33, Granaries.full().bayOf(30, 5));
    }

    /** "one begins at the rung b and 1, and goes on with the rung whose number is less by the size, until it is 0". */
    private static void stepsOfSoundRungs() {
        GranaryLadder x = Granaries.atItsLoad();
        for (int bay = 0; bay < 32; bay++) {
            dueSteps("sound", Integer.bitCount(bay + 1), x, bay);
            CHECK.due("sum", 100 * (bay + 1), x.sum(0, bay));
        }
        dueSteps("the longest climb over sound rungs", 5, x, 30);
    }

    /** "A cracked rung takes a step to look into its last bay, and those of the rungs below it". */
    private static void stepsOfCrackedRungs() {
        GranaryLadder full = Granaries.full();
        GranaryLadder empty = Granaries.crackedAndEmpty();
        for (int bay = 0; bay < 32; bay++) {
            dueSteps("all are cracked", bay + 1, full, bay);
            dueSteps("all are cracked, and empty", bay + 1, empty, bay);
        }
    }

    /** One rung alone is cracked, each in turn: a step more for each rung directly below it, if the climb comes to it. */
    private static void stepsOfOneCrackedRung() {
        for (int rung = 1; rung <= 32; rung++) {
            GranaryLadder x = Granaries.crackedAt(rung);
            for (int bay = 0; bay < 32; bay++) {
                int more = isOnTheClimb(rung, bay) ? logarithm(Granaries.sizeOf(rung)) : 0;
                dueSteps("only " + rung + " is cracked", Integer.bitCount(bay + 1) + more, x, bay);
            }
        }
    }

    private static boolean isOnTheClimb(int rung, int bay) {
        int at = bay + 1;
        while (at > rung) {
            at -= Granaries.sizeOf(at);
        }
        return at == rung;
    }

    /** "of these cracked ones are taken likewise": 8 with 7, 6 and 4, of these 6 with 5, and 4 with 3 and 2, of these 2 with 1. */
    private static void stepsOfCrackedRungsInOneAnother() {
        GranaryLadder x = new GranaryLadder();
        for (int bay = 0; bay < 8; bay++) {
            x.store(bay, 0, bay == 1 ? 101 : 100);
        }
        CHECK.due("2, 4 and 8 are cracked", 3, x.account(13));
        dueSteps("2 with 1", 2, x, 1);
        dueSteps("4 with 3, and 2 with 1", 4, x, 3);
        dueSteps("8 with 7, 6, and 4 with 3, and 2 with 1", 7, x, 7);
        dueSteps("7, 6, and 4 with 3, and 2 with 1", 6, x, 6);
        dueSteps("16", 1, x, 15);
        x.store(5, 0, 1);
        dueSteps("8 with 7, 6 with 5, and 4 with 3, and 2 with 1", 8, x, 7);
    }

    /** "The sums by the ladder are those by the bays", whatever is cracked. */
    private static void sumsOverCrackedRungs() {
        GranaryLadder[] all = {new GranaryLadder(), Granaries.full(), Granaries.crackedAndEmpty(), Granaries.crackedAt(16)};
        for (GranaryLadder x : all) {
            for (int bay = 0; bay < 32; bay++) {
                CHECK.due("sum from " + bay, x.sumAgain(bay, 31), x.sum(bay, 31));
                CHECK.due("sum to " + bay, x.sumAgain(0, bay), x.sum(0, bay));
                CHECK.due("sum of one: " + bay, x.bayOf(bay, 1), x.sum(bay, bay));
            }
        }
    }
}
