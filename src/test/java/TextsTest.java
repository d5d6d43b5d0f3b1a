/** Promises 21 to 25: the text, its commands, the line. */
public final class TextsTest {
    private static final Check CHECK = new Check("texts");

    public static void main(String[] args) {
        appending();
        faults();
        rightTexts();
        carriedOut();
        allOrNone();
        failures();
        longest();
        oneChange();
        rows();
        rungLines();
        characters();
        CHECK.end();
    }

    private static void appending() {
        GranaryLadder x = new GranaryLadder();
        CHECK.due("append 31", -12, x.append(31));
        CHECK.due("append 127", -12, x.append(127));
        CHECK.due("append -1", -12, x.append(-1));
        CHECK.due("append the greatest number", -12, x.append(Integer.MAX_VALUE));
        CHECK.due("append 32", 1, x.append(32));
        CHECK.due("append 126", 2, x.append(126));
        CHECK.due("characters of the text", 2, x.account(16));
        for (int length = 3; length <= 60; length++) {
            CHECK.due("append to " + length, length, x.append('a'));
        }
        CHECK.due("full", -13, x.append('a'));
        CHECK.due("bad ahead of full", -12, x.append(127));
        CHECK.due("characters of the text", 60, x.account(16));
        CHECK.due("wrong text", -1000, x.run());
        CHECK.due("the text is empty", 0, x.account(16));
        CHECK.due("append to the empty text", 1, x.append('a'));
    }

    private static void dueFault(String text, int position) {
        GranaryLadder x = new GranaryLadder();
        CHECK.due("run of '" + text + "'", -1000 - position, Check.runText(x, text));
        CHECK.due("the text is empty after '" + text + "'", 0, x.account(16));
        CHECK.due("nothing is refused by '" + text + "'", -15, x.reason(false));
        CHECK.due("nothing is changed by '" + text + "'", 0, x.account(17));
    }

    private static void faults() {
        dueFault("", 0);
        dueFault(" ", 0);
        dueFault(";", 0);
        dueFault("x", 0);
        dueFault("Store 1 w 1", 0);
        dueFault("s", 1);
        dueFault("stare", 2);
        dueFault("store", 5);
        dueFault("store1", 5);
        dueFault("store ", 6);
        dueFault("store  1", 6);
        dueFault("store -1", 6);
        dueFault("store 1", 7);
        dueFault("store 1w", 7);
        dueFault("store 12", 8);
        dueFault("store 123", 8);
        dueFault("store 12 ", 9);
        dueFault("store 1 x", 8);
        dueFault("store 1  5", 8);
        dueFault("store 1 W", 8);
        dueFault("store 1 w", 9);
        dueFault("store 1 w1", 9);
        dueFault("store 1 w ", 10);
        dueFault("store 1 w ;", 10);
        dueFault("store 1 w 1234", 13);
        dueFault("store 1 w 1 ", 11);
        dueFault("store 1 w 1;", 12);
        dueFault("store 1 w 1;;", 12);
        dueFault("store 1 w 1; take", 12);
        dueFault("store 1 w 1;take 1 1.", 20);
        dueFault("tale", 2);
        dueFault("take 1", 6);
        dueFault("take 1 ", 7);
        dueFault("take 123 4", 7);
        dueFault("take 1>2 3", 6);
        dueFault("take 1 1234", 10);
        dueFault("move 1 2 3", 6);
        dueFault("move 1>", 7);
        dueFault("move 1>w", 7);
        dueFault("move 12>34", 10);
        dueFault("move 12>345", 10);
        dueFault("move 123>4 5", 7);
        dueFault("move 1>2 3456", 12);
        dueFault("order 1 5", 6);
        dueFault("order x", 6);
        dueFault("order o", 7);
        dueFault("order  5", 6);
        dueFault("order ob", 7);
        dueFault("order o 1000", 11);
        dueFault("order o 1/", 9);
        dueFault("order o 1:", 9);
        dueFault("fix", 3);
        dueFault("fix a", 4);
        dueFault("fix 123", 6);
        dueFault("fix 1 ", 5);
        dueFault("pass 123", 7);
        dueFault("pass", 4);
        dueFault("pazz", 2);
        dueFault("pass 1;f", 8);
        dueFault("pass 1;fix 1;", 13);
        dueFault("pass 1,fix 1", 6);
        dueFault("store 1 w 10;pass 99;x", 21);
    }

    private static void rightTexts() {
        GranaryLadder x = new GranaryLadder();
        CHECK.due("one command", 1, Check.runText(x, "store 01 r 007"));
        CHECK.due("leading zeros", 7, x.bayOf(1, 1));
        CHECK.due("rye", 1, x.bayOf(1, 0));
        CHECK.due("three more", 3, Check.runText(x, "store 31 w 200;store 30 o 1;store 29 b 12"));
        CHECK.due("wheat", 0, x.bayOf(31, 0));
        CHECK.due("oats", 2, x.bayOf(30, 0));
        CHECK.due("barley", 3, x.bayOf(29, 0));
        CHECK.due("take", 1, Check.runText(x, "take 31 150"));
        CHECK.due("left", 50, x.bayOf(31, 1));
        CHECK.due("move", 1, Check.runText(x, "move 29>28 2"));
        CHECK.due("moved", 2, x.bayOf(28, 1));
        CHECK.due("move with two digits", 1, Check.runText(x, "move 1>00 7"));
        CHECK.due("moved", 7, x.bayOf(0, 1));
        CHECK.due("order", 1, Check.runText(x, "order b 11"));
        CHECK.due("coins", 83, x.account(1));
        CHECK.due("the text is empty", 0, x.account(16));
        x.store(2, 2, 101);
        x.take(2, 1);
        CHECK.due("fix", 1, Check.runText(x, "fix 03"));
        CHECK.due("mended", 0, x.rungOf(3, 3));
        CHECK.due("pass", 1, Check.runText(x, "pass 52"));
        CHECK.due("weeks", 52, x.account(0));
    }

    private static void carriedOut() {
        GranaryLadder x = new GranaryLadder();
        CHECK.due("five commands", 5, Check.runText(x, "store 3 w 50;take 3 10;move 3>4 005;order w 3;pass 2"));
        x.tell(0);
        CHECK.dueText("in their order", ". . . w32 w5 . . .", Check.line(x));
        CHECK.due("weeks", 2, x.account(0));
        CHECK.due("stored", 50, x.account(8));
        CHECK.due("taken", 10, x.account(9));
        CHECK.due("moved", 5, x.account(12));
        CHECK.due("sold", 3, x.account(10));
        CHECK.due("coins", 62, x.account(1));
    }

    private static void allOrNone() {
        GranaryLadder x = new GranaryLadder();
        x.store(0, 0, 90);
        x.take(31, 1);
        CHECK.due("reason ahead", 8, x.reason(false));
        CHECK.due("the third one fails", -14, Check.runText(x, "store 0 w 60;pass 30;take 1 1;pass 1"));
        CHECK.due("reason", 9, x.reason(false));
        CHECK.due("detail", 2, x.reason(true));
        CHECK.due("none is carried out", 90, x.bayOf(0, 1));
        CHECK.due("none is carried out", 0, x.bayOf(0, 2));
        CHECK.due("none is carried out", 0, x.rungOf(1, 3));
        CHECK.due("none is carried out", 90, x.rungOf(32, 1));
        CHECK.due("none is carried out", 0, x.account(0));
        CHECK.due("none is carried out", 0, x.account(11));
        CHECK.due("none is carried out", 0, x.account(14));
        CHECK.due("no change", 1, x.account(17));
        CHECK.due("the text is empty", 0, x.account(16));
        CHECK.due("wrong text", -1003, Check.runText(x, "fixx"));
        CHECK.due("the reason is kept", 9, x.reason(false));
        CHECK.due("a right one", 1, Check.runText(x, "pass 1"));
        CHECK.due("the reason is kept", 2, x.reason(true));
        CHECK.due("balanced", 1, x.isBalanced());
    }

    private static void dueFailure(String text, int command) {
        GranaryLadder x = new GranaryLadder();
        CHECK.due("run of '" + text + "'", -14, Check.runText(x, text));
        CHECK.due("reason of '" + text + "'", 9, x.reason(false));
        CHECK.due("detail of '" + text + "'", command, x.reason(true));
        CHECK.due("nothing is changed by '" + text + "'", 0, x.account(17));
        CHECK.due("nothing is stored by '" + text + "'", 0, x.account(8));
        CHECK.due("the text is empty after '" + text + "'", 0, x.account(16));
    }

    private static void failures() {
        dueFailure("store 32 w 1", 0);
        dueFailure("store 1 w 0", 0);
        dueFailure("store 1 w 201", 0);
        dueFailure("take 0 1", 0);
        dueFailure("take 32 1", 0);
        dueFailure("move 1>1 1", 0);
        dueFailure("move 1>99 1", 0);
        dueFailure("move 99>1 1", 0);
        dueFailure("order w 1", 0);
        dueFailure("order w 0", 0);
        dueFailure("fix 0", 0);
        dueFailure("fix 33", 0);
        dueFailure("fix 32", 0);
        dueFailure("pass 0", 0);
        dueFailure("pass 53", 0);
        dueFailure("store 1 w 5;take 1 6", 1);
        dueFailure("store 1 w 5;store 1 r 5", 1);
        dueFailure("store 1 w 5;store 2 r 5;move 1>2 5", 2);
        dueFailure("pass 1;pass 1;pass 1;pass 1;pass 1;pass 1;pass 1;fix 1", 7);
        dueFailure("store 1 w 5;take 1 5;take 1 1;fix 1", 2);
    }

    private static void longest() {
        GranaryLadder x = new GranaryLadder();
        for (int bay = 0; bay < 10; bay++) {
            x.store(bay, 0, 200);
        }
        for (int bay = 0; bay < 10; bay++) {
            x.take(bay, 200);
        }
        CHECK.due("60 characters", 60, Check.type(x, "fix 1;fix 2;fix 3;fix 4;fix 5;fix 6;fix 7;fix 8;fix 9;fix 10"));
        CHECK.due("the text is full", -13, x.append('0'));
        CHECK.due("ten commands", 10, x.run());
        CHECK.due("coins", 50 - 33, x.account(1));
        CHECK.due("the rung 16 stays cracked", 1, x.account(13));
        CHECK.due("60 characters", 60, Check.type(x, "fix 16;fix 1;fix 2;fix 3;fix 4;fix 5;fix 6;fix 7;fix 8;fix 0"));
        CHECK.due("the second one fails", -14, x.run());
        CHECK.due("detail", 1, x.reason(true));
        CHECK.due("60 characters", 60, Check.type(x, "fix 1;fix 1;fix 1;fix 1;fix 1;fix 1;fix 1;fix 1;fix 1;fix 1;"));
        CHECK.due("ten commands and nothing behind", -1060, x.run());
        CHECK.due("60 characters", 60, Check.type(x, "fix 1;fix 1;fix 1;fix 1;fix 1;fix 1;fix 1;fix 1;fix 1;fix 1x"));
        CHECK.due("a fault at the end", -1059, x.run());
    }

    private static void oneChange() {
        GranaryLadder x = new GranaryLadder();
        x.store(8, 0, 10);
        CHECK.due("three commands", 3, Check.runText(x, "store 9 r 10;store 10 b 150;pass 3"));
        CHECK.due("one change", 2, x.account(17));
        CHECK.due("undo", 1, x.undo());
        CHECK.due("all of it is undone", 10, x.account(3));
        CHECK.due("all of it is undone", 0, x.account(0));
        CHECK.due("all of it is undone", 0, x.account(13));
        CHECK.due("undo", 0, x.undo());
        CHECK.due("all is undone", 0, x.account(3));
    }

    private static void rows() {
        GranaryLadder x = new GranaryLadder();
        int[][] stored = {{0, 0, 50}, {3, 1, 7}, {4, 2, 200}, {8, 3, 10}, {15, 0, 1}, {23, 1, 100}, {24, 2, 99}, {31, 3, 9}};
        for (int[] row : stored) {
            x.store(row[0], row[1], row[2]);
        }
        String[] due = {"w50 . . r7 o200 . . .", "b10 . . . . . . w1", ". . . . . . . r100", "o99 . . . . . . b9"};
        for (int row = 0; row < 4; row++) {
            CHECK.due("tell " + row, due[row].length(), x.tell(row));
            CHECK.dueText("row " + row, due[row], Check.line(x));
        }
        CHECK.due("tell -1", -11, x.tell(-1));
        CHECK.due("tell 4", -11, x.tell(4));
        CHECK.due("tell the greatest number", -11, x.tell(Integer.MAX_VALUE));
        CHECK.due("tell the least number", -11, x.tell(Integer.MIN_VALUE));
        CHECK.dueText("the line stays", due[3], Check.line(x));
        for (int bay = 16; bay < 24; bay++) {
            x.store(bay, 1, bay == 23 ? 100 : 200);
        }
        CHECK.due("the longest", 39, x.tell(2));
        CHECK.dueText("the longest", "r200 r200 r200 r200 r200 r200 r200 r200", Check.line(x));
    }

    private static void rungLines() {
        GranaryLadder x = new GranaryLadder();
        x.store(8, 0, 140);
        x.store(10, 0, 200);
        x.store(31, 3, 9);
        dueRung(x, 12, "12:8-11=340");
        dueRung(x, 9, "9:8-8=140!");
        dueRung(x, 1, "1:0-0=0");
        dueRung(x, 32, "32:0-31=349");
        dueRung(x, 31, "31:30-30=0");
        CHECK.due("tellRung 0", -11, x.tellRung(0));
        CHECK.due("tellRung 33", -11, x.tellRung(33));
        CHECK.due("tellRung the least number", -11, x.tellRung(Integer.MIN_VALUE));
        CHECK.dueText("the line stays", "31:30-30=0", Check.line(x));
        for (int bay = 0; bay < 32; bay++) {
            x.take(bay, x.bayOf(bay, 1));
            x.store(bay, 2, 200);
        }
        dueRung(x, 32, "32:0-31=6400!");
        dueRung(x, 24, "24:16-23=1600!");
        x.take(4, 95);
        x.take(5, 99);
        x.take(5, 101);
        dueRung(x, 5, "5:4-4=105!");
        dueRung(x, 6, "6:4-5=105!");
    }

    private static void dueRung(GranaryLadder x, int rung, String want) {
        CHECK.due("tellRung " + rung, want.length(), x.tellRung(rung));
        CHECK.dueText("line of " + rung, want, Check.line(x));
    }

    private static void characters() {
        GranaryLadder x = new GranaryLadder();
        CHECK.due("empty at first", -11, x.character(0));
        x.tellRung(8);
        CHECK.due("character 0", '8', x.character(0));
        CHECK.due("character 6", '0', x.character(6));
        CHECK.due("character 7", -11, x.character(7));
        CHECK.due("character -1", -11, x.character(-1));
        CHECK.due("the least index", -11, x.character(Integer.MIN_VALUE));
        CHECK.due("the greatest index", -11, x.character(Integer.MAX_VALUE));
        x.store(0, 0, 5);
        CHECK.due("the line isn't written anew", '0', x.character(6));
        x.tell(0);
        x.tellRung(8);
        CHECK.due("a shorter line", -11, x.character(7));
        x.save();
        x.undo();
        x.restore();
        CHECK.due("neither undone nor saved", '5', x.character(6));
    }
}
