/** The examples of the document, row by row. */
public final class ExamplesTest {
    private static final Check CHECK = new Check("examples");

    public static void main(String[] args) {
        first();
        second();
        third();
        fourth();
        fifth();
        CHECK.end();
    }

    private static void first() {
        GranaryLadder x = new GranaryLadder();
        CHECK.due("store(3, 0, 50)", 0, x.store(3, 0, 50));
        CHECK.due("store(4, 1, 7)", 0, x.store(4, 1, 7));
        CHECK.due("sum(0, 4)", 57, x.sum(0, 4));
        CHECK.due("sumAgain(3, 3)", 50, x.sumAgain(3, 3));
        CHECK.due("rungOf(4, 1)", 50, x.rungOf(4, 1));
        CHECK.due("rungOf(8, 0)", 8, x.rungOf(8, 0));
        CHECK.due("reach(51)", 4, x.reach(51));
        CHECK.due("reachAgain(50)", 3, x.reachAgain(50));
        CHECK.due("steps(4)", 2, x.steps(4));
        CHECK.due("stepsAgain(4)", 2, x.stepsAgain(4));
        CHECK.due("tell(0)", 18, x.tell(0));
        CHECK.dueText("the line", ". . . w50 r7 . . .", Check.line(x));
        CHECK.due("tellRung(8)", 8, x.tellRung(8));
        CHECK.dueText("the line", "8:0-7=57", Check.line(x));
    }

    private static void second() {
        GranaryLadder x = new GranaryLadder();
        CHECK.due("store(0, 2, 150)", 1, x.store(0, 2, 150));
        CHECK.due("bayOf(0, 5)", 1, x.bayOf(0, 5));
        CHECK.due("steps(0)", 1, x.steps(0));
        CHECK.due("store(1, 2, 60)", 1, x.store(1, 2, 60));
        CHECK.due("rungOf(2, 3)", 1, x.rungOf(2, 3));
        CHECK.due("steps(1)", 2, x.steps(1));
        CHECK.due("stepsAgain(1)", 2, x.stepsAgain(1));
        CHECK.due("fix(1)", -14, x.fix(1));
        CHECK.due("reason(true)", 50, x.reason(true));
        CHECK.due("take(0, 60)", 90, x.take(0, 60));
        CHECK.due("fix(1)", 48, x.fix(1));
        CHECK.due("account(15)", 2, x.account(15));
    }

    private static void third() {
        GranaryLadder x = new GranaryLadder();
        CHECK.due("store(5, 3, 40)", 0, x.store(5, 3, 40));
        CHECK.due("pass(12)", 0, x.pass(12));
        CHECK.due("bayOf(5, 3)", 4, x.bayOf(5, 3));
        CHECK.due("pass(1)", 4, x.pass(1));
        CHECK.due("bayOf(5, 1)", 36, x.bayOf(5, 1));
        CHECK.due("store(6, 3, 10)", 0, x.store(6, 3, 10));
        CHECK.due("oldest(0)", 5, x.oldest(0));
        CHECK.due("order(3, 40)", 118, x.order(3, 40));
        CHECK.due("bayOf(6, 1)", 6, x.bayOf(6, 1));
        CHECK.due("account(1)", 168, x.account(1));
        CHECK.due("order(3, 9)", -14, x.order(3, 9));
        CHECK.due("reason(true)", 6, x.reason(true));
    }

    private static void fourth() {
        GranaryLadder x = new GranaryLadder();
        CHECK.due("store(9, 1, 20)", 0, x.store(9, 1, 20));
        CHECK.due("move(9, 9, 1)", -14, x.move(9, 9, 1));
        CHECK.due("move(9, 10, 21)", -14, x.move(9, 10, 21));
        CHECK.due("reason(true)", 20, x.reason(true));
        CHECK.due("move(9, 10, 5)", 0, x.move(9, 10, 5));
        CHECK.due("store(10, 0, 1)", -14, x.store(10, 0, 1));
        CHECK.due("reason(true)", 1, x.reason(true));
        CHECK.due("bestBay(1, 190)", 1, x.bestBay(1, 190));
        CHECK.due("bestBay(0, 100)", 0, x.bestBay(0, 100));
        CHECK.due("price(0, 105)", 410, x.price(0, 105));
    }

    private static void fifth() {
        GranaryLadder x = new GranaryLadder();
        CHECK.due("pass(1)", 0, x.pass(1));
        CHECK.due("append(102)", 1, x.append(102));
        CHECK.due("append(105)", 2, x.append(105));
        CHECK.due("append(120)", 3, x.append(120));
        CHECK.due("append(32)", 4, x.append(32));
        CHECK.due("append(49)", 5, x.append(49));
        CHECK.due("run()", -14, x.run());
        CHECK.due("reason(true)", 0, x.reason(true));
        CHECK.due("append(113)", 1, x.append(113));
        CHECK.due("run()", -1000, x.run());
        CHECK.due("tell(3)", 15, x.tell(3));
        CHECK.due("character(2)", 46, x.character(2));
    }
}
