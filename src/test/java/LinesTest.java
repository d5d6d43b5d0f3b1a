/** Promises 23 to 25 by their edges: each number of sacks in a row, each number of digits in a sum, and where a line ends. */
public final class LinesTest {
    private static final Check CHECK = new Check("lines");
    private static final char[] LETTERS = {'w', 'r', 'o', 'b'};

    public static void main(String[] args) {
        emptyRows();
        fullRows();
        eachNumberOfSacks();
        eachBayInItsRow();
        emptiedBays();
        eachRung();
        eachNumberOfDigits();
        marksOfCrackedRungs();
        endsOfLines();
        inPlaceOfTheLineBefore();
        asItWasWritten();
        CHECK.end();
    }

    private static void dueRow(String name, String want, GranaryLadder x, int row) {
        CHECK.due(name + ": length of the row " + row, want.length(), x.tell(row));
        CHECK.dueText(name + ": row " + row, want, Check.line(x));
    }

    private static void dueRung(String name, String want, GranaryLadder x, int rung) {
        CHECK.due(name + ": length of the line of " + rung, want.length(), x.tellRung(rung));
        CHECK.dueText(name + ": line of " + rung, want, Check.line(x));
    }

    private static void emptyRows() {
        GranaryLadder x = new GranaryLadder();
        for (int row = 0; row < 4; row++) {
            dueRow("empty", ". . . . . . . .", x, row);
        }
    }

    /** The longest line of all has 39 characters. */
    private static void fullRows() {
        GranaryLadder x = new GranaryLadder();
        for (int bay = 0; bay < 32; bay++) {
            x.store(bay, bay / 8, 200);
        }
        for (int row = 0; row < 4; row++) {
            String one = LETTERS[row] + "200";
            dueRow("full", one + (" " + one).repeat(7), x, row);
        }
    }

    private static void eachNumberOfSacks() {
        for (int sacks = 1; sacks <= 200; sacks++) {
            int kind = sacks % 4;
            GranaryLadder x = Granaries.with(sacks % 8, kind, sacks, 0);
            String one = LETTERS[kind] + Integer.toString(sacks);
            dueRow("one bay", ". ".repeat(sacks % 8) + one + " .".repeat(7 - sacks % 8), x, 0);
        }
    }

    /** "0 for the bays 0 to 7, and so on". */
    private static void eachBayInItsRow() {
        for (int bay = 0; bay < 32; bay++) {
            GranaryLadder x = Granaries.with(bay, 2, 9, 0);
            for (int row = 0; row < 4; row++) {
                boolean isThere = bay >= 8 * row && bay <= 8 * row + 7;
                String want = isThere ? ". ".repeat(bay - 8 * row) + "o9" + " .".repeat(8 * row + 7 - bay) : ". . . . . . . .";
                dueRow("the bay " + bay, want, x, row);
            }
        }
    }

    private static void emptiedBays() {
        GranaryLadder x = Granaries.with(0, 3, 1, 12);
        dueRow("a last sack", "b1 . . . . . . .", x, 0);
        x.pass(1);
        dueRow("spoilt", ". . . . . . . .", x, 0);
        x.store(0, 1, 10);
        dueRow("another kind", "r10 . . . . . . .", x, 0);
        x.take(0, 1);
        dueRow("a digit less", "r9 . . . . . . .", x, 0);
        x.undo();
        dueRow("undone", "r10 . . . . . . .", x, 0);
    }

    /** "its number, ":", its first bay, "-", its last bay, "=", its sum": rungs of the size 1 have one bay, told twice. */
    private static void eachRung() {
        for (int rung = 1; rung <= 32; rung++) {
            int size = Granaries.sizeOf(rung);
            String bays = rung + ":" + (rung - size) + "-" + (rung - 1) + "=";
            dueRung("empty", bays + "0", new GranaryLadder(), rung);
            dueRung("full", bays + 200 * size + "!", Granaries.full(), rung);
            GranaryLadder alone = Granaries.crackedAt(rung);
            dueRung("one more than its load", bays + (100 * size + 1) + "!", alone, rung);
            alone.take(rung - 1, 1);
            dueRung("just its load", bays + 100 * size + "!", alone, rung);
        }
        dueRung("the document's line of a cracked rung", "12:8-11=340!", crackedTwelve(), 12);
    }

    private static GranaryLadder crackedTwelve() {
        GranaryLadder x = new GranaryLadder();
        x.store(8, 0, 200);
        x.store(9, 0, 200);
        x.store(10, 0, 1);
        x.take(9, 61);
        return x;
    }

    private static void eachNumberOfDigits() {
        int[] sums = {0, 1, 9, 10, 11, 99, 100, 101, 109, 110, 999, 1000, 1001, 1009, 1010, 1099, 1100, 3200, 6399, 6400};
        for (int sum : sums) {
            GranaryLadder x = new GranaryLadder();
            for (int bay = 0; 200 * bay < sum; bay++) {
                x.store(bay, 1, Math.min(200, sum - 200 * bay));
            }
            dueRung("all sacks", "32:0-31=" + sum + (sum > 3200 ? "!" : ""), x, 32);
        }
    }

    /** "and "!" if it is cracked": until it is mended, whatever its sum is. */
    private static void marksOfCrackedRungs() {
        GranaryLadder x = Granaries.crackedAt(1);
        dueRung("cracked", "1:0-0=101!", x, 1);
        x.take(0, 101);
        dueRung("cracked and empty", "1:0-0=0!", x, 1);
        dueRung("a sound rung over it", "2:0-1=0", x, 2);
        x.fix(1);
        dueRung("mended", "1:0-0=0", x, 1);
        x.undo();
        dueRung("not mended after all", "1:0-0=0!", x, 1);
    }

    private static void dueEnd(String name, int length, int last, GranaryLadder x) {
        CHECK.due(name + ": the last character", last, x.character(length - 1));
        CHECK.due(name + ": behind it", -11, x.character(length));
        CHECK.due(name + ": far behind it", -11, x.character(Integer.MAX_VALUE));
        CHECK.due(name + ": ahead of the first one", -11, x.character(-1));
        CHECK.due(name + ": far ahead of it", -11, x.character(Integer.MIN_VALUE));
    }

    private static void endsOfLines() {
        GranaryLadder x = Granaries.full();
        CHECK.due("no line yet", -11, x.character(0));
        dueEnd("the longest row", x.tell(0), '0', x);
        dueEnd("the longest line of a rung", x.tellRung(32), '!', x);
        GranaryLadder y = new GranaryLadder();
        dueEnd("the shortest row", y.tell(3), '.', y);
        dueEnd("the shortest line of a rung", y.tellRung(9), '0', y);
    }

    /** A shorter line leaves nothing of a longer one. */
    private static void inPlaceOfTheLineBefore() {
        GranaryLadder x = Granaries.full();
        x.tell(3);
        dueRung("behind the longest", "9:8-8=200!", x, 9);
        CHECK.due("nothing is left of it", -11, x.character(10));
        x.take(8, 200);
        dueRung("shorter", "9:8-8=0!", x, 9);
        CHECK.due("nothing is left of it", -11, x.character(8));
        dueRow("longer again", ". w200 w200 w200 w200 w200 w200 w200", x, 1);
        CHECK.due("no such row leaves it", -11, x.tell(4));
        CHECK.due("no such rung leaves it", -11, x.tellRung(0));
        CHECK.dueText("it stays", ". w200 w200 w200 w200 w200 w200 w200", Check.line(x));
    }

    /** A line is not written anew by what happens later. */
    private static void asItWasWritten() {
        GranaryLadder x = Granaries.with(4, 0, 150, 0);
        dueRung("ahead", "5:4-4=150!", x, 5);
        x.take(4, 150);
        x.fix(5);
        x.pass(1);
        Check.runText(x, "store 4 w 7");
        Check.runText(x, "x");
        x.take(4, 9);
        CHECK.dueText("behind", "5:4-4=150!", Check.line(x));
        dueRung("told anew", "5:4-4=7", x, 5);
    }
}
