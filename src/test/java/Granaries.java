/**
 * Granaries in states that several tests begin with, and pictures of what can be seen of one. A picture takes some 220
 * calls, and no test may use an object for more than 512: what it answers after them is free.
 */
final class Granaries {
    private static final int LONGEST_LINE = 39;

    private Granaries() {
    }

    /** Each bay has the same number of sacks of wheat. */
    static GranaryLadder filledWith(int sacks) {
        GranaryLadder x = new GranaryLadder();
        for (int bay = 0; bay < 32; bay++) {
            x.store(bay, 0, sacks);
        }
        return x;
    }

    /** Each bay is full, and each rung is cracked. */
    static GranaryLadder full() {
        return filledWith(200);
    }

    /** The sum of each rung is just its load: none is cracked, and none bears one sack more. */
    static GranaryLadder atItsLoad() {
        return filledWith(100);
    }

    /** Each rung is cracked, though no bay has grain any more. */
    static GranaryLadder crackedAndEmpty() {
        GranaryLadder x = full();
        for (int bay = 0; bay < 32; bay++) {
            x.take(bay, 200);
        }
        return x;
    }

    /** One rung alone is cracked: its bays were at their load, and its last bay, over which it is the smallest rung, got one more. */
    static GranaryLadder crackedAt(int rung) {
        GranaryLadder x = new GranaryLadder();
        for (int bay = rung - sizeOf(rung); bay < rung; bay++) {
            x.store(bay, 0, bay == rung - 1 ? 101 : 100);
        }
        return x;
    }

    /** One bay has so many sacks of a kind, so many weeks old, which were stored on a new object. */
    static GranaryLadder with(int bay, int kind, int sacks, int weeks) {
        GranaryLadder x = new GranaryLadder();
        x.store(bay, kind, sacks);
        if (weeks > 0) {
            x.pass(weeks);
        }
        return x;
    }

    static int sizeOf(int rung) {
        int size = 1;
        while (rung % (2 * size) == 0) {
            size *= 2;
        }
        return size;
    }

    /**
     * A granary in which much went on: grain of several kinds and ages, cracked rungs, coins, a snapshot that differs from
     * what there is now, 8 changes that can be undone, the latest reason 8 with the detail 31, a line, and a text.
     */
    static GranaryLadder busy(String text) {
        GranaryLadder x = new GranaryLadder();
        x.store(0, 0, 150);
        x.store(1, 0, 60);
        x.store(9, 1, 20);
        x.pass(3);
        x.store(12, 2, 200);
        x.save();
        x.store(9, 1, 30);
        x.move(12, 13, 50);
        x.order(0, 15);
        x.take(9, 4);
        x.pass(8);
        x.store(20, 3, 50);
        x.fix(13);
        x.take(12, 100);
        x.fix(13);
        x.store(21, 3, 200);
        x.take(31, 1);
        x.tellRung(12);
        Check.type(x, text);
        return x;
    }

    /** All that changes can change. */
    static String stateOf(GranaryLadder x) {
        StringBuilder state = new StringBuilder("accounts");
        for (int what = 0; what <= 15; what++) {
            state.append(' ').append(x.account(what));
        }
        for (int bay = 0; bay < 32; bay++) {
            state.append(" bay ").append(bay);
            for (int what = 0; what <= 2; what++) {
                state.append(' ').append(x.bayOf(bay, what));
            }
        }
        for (int rung = 1; rung <= 32; rung++) {
            state.append(" rung ").append(rung).append(' ').append(x.rungOf(rung, 1)).append(' ').append(x.rungOf(rung, 3));
        }
        return state.toString();
    }

    /** All that can be seen, but for the reason. */
    static String pictureOf(GranaryLadder x) {
        StringBuilder picture = new StringBuilder(stateOf(x));
        picture.append(" text ").append(x.account(16)).append(" changes ").append(x.account(17)).append(" line ");
        for (int index = 0; index <= LONGEST_LINE; index++) {
            picture.append(x.character(index)).append(' ');
        }
        return picture.toString();
    }
}
