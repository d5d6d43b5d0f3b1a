import java.util.function.Supplier;

/** "Reasons" and "Codes": each reason with its detail, the order of the reasons, and what a call that returns a code leaves as it was. */
public final class RefusalsTest {
    private static final Check CHECK = new Check("refusals");
    /** The text of the busy granary, and what makes it a right one. */
    private static final String TEXT = "store 7 w 1";
    private static final String REST = "1;pass 1";
    private static final int CHANGES = 8;

    private interface Call {
        int on(GranaryLadder granary);
    }

    public static void main(String[] args) {
        reasonsOfStore();
        reasonsOfTake();
        reasonsOfMove();
        reasonsOfOrder();
        reasonsOfFix();
        reasonsOfRun();
        orderOfReasonsOfMove();
        orderOfReasonsOfFix();
        latestReason();
        changesOutOfRange();
        numbersOutOfRange();
        linesOutOfRange();
        fullText();
        nothingOfThisKind();
        nothingToUndo();
        nothingToRestore();
        wrongTexts();
        CHECK.end();
    }

    // ---- a call on the busy granary beside the same one without the call

    /** The busy granary's latest reason is 8, with the detail 31. */
    private static void dueCode(String name, int code, Call call) {
        GranaryLadder x = Granaries.busy(TEXT);
        CHECK.due(name, code, call.on(x));
        dueReason(name, 8, 31, x);
        leavesAll(name, call);
    }

    private static void dueRefused(String name, int reason, int detail, Call call) {
        GranaryLadder x = Granaries.busy(TEXT);
        CHECK.due(name, -14, call.on(x));
        dueReason(name, reason, detail, x);
        leavesAll(name, call);
    }

    private static void dueReason(String name, int reason, int detail, GranaryLadder x) {
        CHECK.due(name + ": reason", reason, x.reason(false));
        CHECK.due(name + ": detail", detail, x.reason(true));
    }

    private static void leavesAll(String name, Call call) {
        for (int look = 0; look <= CHANGES + 2; look++) {
            GranaryLadder touched = Granaries.busy(TEXT);
            call.on(touched);
            dueAlike(name, look, Granaries.busy(TEXT), touched);
        }
    }

    private static void dueAlike(String name, int look, GranaryLadder untouched, GranaryLadder touched) {
        CHECK.due(name + ", look " + look, bringToLight(untouched, look), bringToLight(touched, look));
        CHECK.dueText(name + ", look " + look, Granaries.pictureOf(untouched), Granaries.pictureOf(touched));
    }

    /** First what is open to all, then some changes undone, then the snapshot, then the text. */
    private static int bringToLight(GranaryLadder x, int look) {
        int answer = 0;
        if (look <= CHANGES) {
            for (int i = 0; i < look; i++) {
                answer = x.undo();
            }
            return answer;
        }
        return look == CHANGES + 1 ? x.restore() : Check.runText(x, REST);
    }

    /** On a granary of its own, which stays as it is for all that can be seen. */
    private static void dueCodeOn(String name, int code, Supplier<GranaryLadder> made, Call call) {
        GranaryLadder untouched = made.get();
        GranaryLadder touched = made.get();
        CHECK.due(name, code, call.on(touched));
        CHECK.dueText(name, Granaries.pictureOf(untouched), Granaries.pictureOf(touched));
        dueReason(name, untouched.reason(false), untouched.reason(true), touched);
    }

    // ---- the reasons of each method, with the least and the most detail

    private static void reasonsOfStore() {
        dueRefused("store rye to wheat", 1, 0, x -> x.store(0, 1, 1));
        dueRefused("store wheat to rye", 1, 1, x -> x.store(9, 0, 1));
        dueRefused("store wheat to oats", 1, 2, x -> x.store(13, 0, 200));
        dueRefused("store oats to barley", 1, 3, x -> x.store(21, 2, 1));
        dueRefused("store one too many", 2, 1, x -> x.store(21, 3, 201 - x.bayOf(21, 1)));
        dueRefused("store 200 to 200", 2, 200, x -> x.store(21, 3, 200));
        dueRefused("store 200 to 50", 2, 50, x -> x.store(20, 3, 200));
    }

    private static void reasonsOfTake() {
        dueRefused("take from the empty bay 30", 8, 30, x -> x.take(30, 1));
        dueRefused("take from the empty bay 2", 8, 2, x -> x.take(2, 200));
        dueRefused("take one too many", 3, 60, x -> x.take(1, 61));
        dueRefused("take 200 of 46", 3, 46, x -> x.take(9, 200));
        CHECK.due("take 2 of the last one", -14, Granaries.with(0, 0, 1, 0).take(0, 2));
        CHECK.due("take all", 0, Granaries.with(0, 0, 200, 0).take(0, 200));
        dueRefusedOn("take from an empty bay 0", 8, 0, Granaries.with(1, 0, 1, 0), x -> x.take(0, 1));
        dueRefusedOn("take from an empty bay 31", 8, 31, Granaries.with(1, 0, 1, 0), x -> x.take(31, 1));
        dueRefusedOn("take 2 of 1", 3, 1, Granaries.with(1, 0, 1, 0), x -> x.take(1, 2));
        dueRefusedOn("take 200 of 199", 3, 199, Granaries.with(1, 0, 199, 0), x -> x.take(1, 200));
    }

    private static void dueRefusedOn(String name, int reason, int detail, GranaryLadder x, Call call) {
        CHECK.due(name, -14, call.on(x));
        dueReason(name, reason, detail, x);
    }

    private static void reasonsOfMove() {
        dueRefused("move from the bay 0 to itself", 4, 0, x -> x.move(0, 0, 1));
        dueRefused("move from the bay 31 to itself", 4, 31, x -> x.move(31, 31, 1));
        dueRefused("move from the empty bay 30", 8, 30, x -> x.move(30, 0, 1));
        dueRefused("move from an empty bay to an empty bay", 8, 31, x -> x.move(31, 30, 1));
        dueRefused("move one too many", 3, 60, x -> x.move(1, 2, 61));
        dueRefused("move to another kind", 1, 3, x -> x.move(1, 20, 1));
        dueRefused("move to another kind", 1, 0, x -> x.move(20, 1, 1));
        dueRefused("move one too many to 200", 2, 1, x -> x.move(20, 21, 1));
        dueRefused("move 50 too many to 200", 2, 50, x -> x.move(20, 21, 50));
        dueRefusedOn("move 200 to 200", 2, 200, Granaries.full(), x -> x.move(0, 31, 200));
    }

    private static void reasonsOfOrder() {
        dueRefused("order one more than all wheat", 3, 195, x -> x.order(0, 196));
        dueRefused("order 999", 3, 46, x -> x.order(1, 999));
        dueRefused("order more than the barley in both bays", 3, 250, x -> x.order(3, 251));
        dueRefusedOn("order what isn't there", 3, 0, Granaries.with(1, 0, 1, 0), x -> x.order(1, 1));
        dueRefusedOn("order 2 of 1", 3, 1, Granaries.with(1, 0, 1, 0), x -> x.order(0, 2));
        dueRefusedOn("order 999 of 998", 3, 998, withBarley(998), x -> x.order(3, 999));
    }

    private static GranaryLadder withBarley(int sacks) {
        GranaryLadder x = new GranaryLadder();
        for (int bay = 0; 200 * bay < sacks; bay++) {
            x.store(bay, 3, Math.min(200, sacks - 200 * bay));
        }
        return x;
    }

    private static void reasonsOfFix() {
        dueRefused("fix the sound rung 3", 6, 3, x -> x.fix(3));
        dueRefused("fix the sound rung 32", 6, 32, x -> x.fix(32));
        dueRefused("fix under 35 too many", 7, 35, x -> x.fix(1));
        dueRefused("fix under 50 too many", 7, 50, x -> x.fix(22));
        dueRefusedOn("fix the sound rung 1", 6, 1, new GranaryLadder(), x -> x.fix(1));
        dueRefusedOn("fix under 1 too many", 7, 1, Granaries.crackedAt(16), x -> x.fix(16));
        dueRefusedOn("fix under 3200 too many", 7, 3200, Granaries.full(), x -> x.fix(32));
        dueRefusedOn("fix without a coin", 5, 9, withoutCoins(), x -> x.fix(8));
        dueRefusedOn("fix with 2 coins instead of 3", 5, 1, withTwoCoins(), x -> x.fix(2));
    }

    private static GranaryLadder withoutCoins() {
        GranaryLadder x = Granaries.crackedAndEmpty();
        x.fix(32);
        x.fix(16);
        return x;
    }

    private static GranaryLadder withTwoCoins() {
        GranaryLadder x = withoutCoins();
        x.store(31, 2, 1);
        x.order(2, 1);
        return x;
    }

    /** "9, a command cannot be carried out: its number, from 0": the first one and the last one of the most commands. */
    private static void reasonsOfRun() {
        for (int command = 0; command < 10; command++) {
            GranaryLadder x = Granaries.crackedAndEmpty();
            StringBuilder text = new StringBuilder();
            for (int i = 0; i < 10; i++) {
                text.append(i == 0 ? "" : ";").append("fix ").append(i == command ? 0 : i % 9 + 1);
            }
            dueRefusedOn("the command " + command + " fails", 9, command, x, y -> Check.runText(y, text.toString()));
            CHECK.due("none of them is carried out", 32, x.account(13));
            CHECK.due("none of them costs", 50, x.account(1));
        }
        dueRefusedOn("the first of two that fail", 9, 1, new GranaryLadder(), x -> Check.runText(x, "pass 1;fix 1;pass 1;fix 1"));
    }

    // ---- the order of the reasons

    /** "REFUSED for the reason 4, 8, 3, 1 or 2": each one ahead of all that follow it. */
    private static void orderOfReasonsOfMove() {
        GranaryLadder x = Granaries.with(2, 0, 100, 0);
        x.store(3, 1, 200);
        x.store(4, 0, 200);
        dueRefusedOn("both bays are one, and it is empty", 4, 5, x, y -> y.move(5, 5, 1));
        dueRefusedOn("both bays are one, and has too few", 4, 2, x, y -> y.move(2, 2, 101));
        dueRefusedOn("both bays are one, and it would have too many", 4, 4, x, y -> y.move(4, 4, 1));
        dueRefusedOn("it is empty, and another kind lies there", 8, 5, x, y -> y.move(5, 3, 1));
        dueRefusedOn("it is empty, and there would be too many", 8, 5, x, y -> y.move(5, 4, 1));
        dueRefusedOn("too few, and another kind lies there", 3, 100, x, y -> y.move(2, 3, 101));
        dueRefusedOn("too few, and there would be too many", 3, 100, x, y -> y.move(2, 4, 101));
        dueRefusedOn("another kind, and there would be too many", 1, 1, x, y -> y.move(2, 3, 100));
        dueRefusedOn("there would be too many", 2, 100, x, y -> y.move(2, 4, 100));
    }

    /** "REFUSED for the reason 6, 7 or 5": each one ahead of all that follow it. */
    private static void orderOfReasonsOfFix() {
        GranaryLadder x = withoutCoins();
        dueRefusedOn("it is sound, and there is no coin", 6, 16, x, y -> y.fix(16));
        x.store(0, 0, 150);
        dueRefusedOn("it is laden, and there is no coin", 7, 50, x, y -> y.fix(1));
        dueRefusedOn("there is no coin", 5, 3, x, y -> y.fix(2));
        x.order(0, 50);
        dueRefusedOn("it is sound, with coins", 6, 32, x, y -> y.fix(32));
        CHECK.due("just its load, and coins enough", 193, x.fix(1));
    }

    /** "that reasons are kept": until the next refusal, whatever else is called. */
    private static void latestReason() {
        GranaryLadder x = new GranaryLadder();
        CHECK.due("nothing was refused", -15, x.reason(false));
        CHECK.due("nothing was refused, detail", -15, x.reason(true));
        x.take(0, 1);
        dueReason("a detail of 0 is a detail", 8, 0, x);
        x.store(0, 0, 7);
        x.take(0, 7);
        x.pass(1);
        x.order(0, 0);
        x.store(99, 0, 0);
        x.append(200);
        x.run();
        x.save();
        x.undo();
        x.restore();
        dueReason("kept by all that isn't refused", 8, 0, x);
        Check.runText(x, "take 9 9");
        dueReason("a command's own reason isn't told", 9, 0, x);
        x.fix(9);
        dueReason("the latest one", 6, 9, x);
    }

    // ---- codes leave everything as it was

    private static void changesOutOfRange() {
        dueCode("store in no bay", -11, x -> x.store(32, 0, 1));
        dueCode("store no kind", -12, x -> x.store(0, 4, 1));
        dueCode("store no sacks", -12, x -> x.store(0, 0, 0));
        dueCode("store too many sacks", -12, x -> x.store(2, 0, 201));
        dueCode("take from no bay", -11, x -> x.take(-1, 1));
        dueCode("take no sacks", -12, x -> x.take(0, 0));
        dueCode("take less than none", -12, x -> x.take(0, -1));
        dueCode("move from no bay", -11, x -> x.move(32, 0, 1));
        dueCode("move to no bay", -11, x -> x.move(0, 32, 1));
        dueCode("move no sacks", -12, x -> x.move(0, 2, 0));
        dueCode("move less than none", -12, x -> x.move(0, 2, -1));
        dueCode("order no kind", -12, x -> x.order(4, 1));
        dueCode("order no sacks", -12, x -> x.order(0, 0));
        dueCode("order less than none", -12, x -> x.order(0, -1));
        dueCode("fix no rung", -11, x -> x.fix(0));
        dueCode("fix no rung", -11, x -> x.fix(33));
        dueCode("pass no weeks", -12, x -> x.pass(0));
        dueCode("pass too many weeks", -12, x -> x.pass(53));
    }

    private static void numbersOutOfRange() {
        dueCode("bayOf no bay", -11, x -> x.bayOf(32, 0));
        dueCode("bayOf no such number", -12, x -> x.bayOf(0, 6));
        dueCode("bayOf the kind of an empty bay", -15, x -> x.bayOf(31, 0));
        dueCode("rungOf no rung", -11, x -> x.rungOf(0, 0));
        dueCode("rungOf no such number", -12, x -> x.rungOf(1, 6));
        dueCode("sum of no bay", -11, x -> x.sum(0, 32));
        dueCode("sum of the last one ahead of the first one", -12, x -> x.sum(1, 0));
        dueCode("sumAgain of no bay", -11, x -> x.sumAgain(-1, 0));
        dueCode("sumAgain of the last one ahead of the first one", -12, x -> x.sumAgain(1, 0));
        dueCode("reach no sacks", -12, x -> x.reach(0));
        dueCode("reach more than all", -15, x -> x.reach(9999));
        dueCode("reachAgain no sacks", -12, x -> x.reachAgain(0));
        dueCode("reachAgain more than all", -15, x -> x.reachAgain(9999));
        dueCode("steps to no bay", -11, x -> x.steps(32));
        dueCode("stepsAgain to no bay", -11, x -> x.stepsAgain(32));
        dueCode("oldest at no place", -11, x -> x.oldest(32));
        dueCode("bestBay for no kind", -12, x -> x.bestBay(4, 1));
        dueCode("price of no kind", -12, x -> x.price(4, 1));
        dueCode("account of no such number", -12, x -> x.account(18));
    }

    /** The line that was there, too. */
    private static void linesOutOfRange() {
        dueCode("append no such character", -12, x -> x.append(31));
        dueCode("append no such character", -12, x -> x.append(127));
        dueCode("tell no row", -11, x -> x.tell(4));
        dueCode("tell no row", -11, x -> x.tell(-1));
        dueCode("tellRung of no rung", -11, x -> x.tellRung(0));
        dueCode("tellRung of no rung", -11, x -> x.tellRung(33));
        dueCode("character at no index", -11, x -> x.character(40));
    }

    /** What doesn't fit changes no character of the text. */
    private static void fullText() {
        String text = TEXT + ";pass 1;pass 1;pass 1;pass 1;pass 1;pass 1;pass 1";
        GranaryLadder x = Granaries.busy(text);
        CHECK.due("the text is full", 60, x.account(16));
        CHECK.due("append to it", -13, x.append('9'));
        CHECK.due("append to it again", -13, x.append(';'));
        dueReason("no refusal", 8, 31, x);
        dueCodeOn("append to a full text", -13, () -> Granaries.busy(text), y -> y.append('9'));
        CHECK.due("the text is as it was", 8, x.run());
        CHECK.due("7 weeks more", 18, x.account(0));
        CHECK.due("after that it has room", 1, x.append('9'));
    }

    private static void nothingOfThisKind() {
        dueCodeOn("commonAge without grain", -15, () -> new GranaryLadder(), x -> x.commonAge());
        dueCodeOn("commonAge when all is gone", -15, Granaries::crackedAndEmpty, x -> x.commonAge());
        dueCodeOn("tightest when all are cracked", -15, Granaries::full, x -> x.tightest());
        dueCodeOn("tightest when all are cracked and empty", -15, Granaries::crackedAndEmpty, x -> x.tightest());
        dueCodeOn("bestBay when all is full", -15, Granaries::full, x -> x.bestBay(0, 1));
        dueCodeOn("bestBay when all would crack", -15, Granaries::atItsLoad, x -> x.bestBay(0, 1));
        dueCodeOn("oldest without grain", -11, () -> new GranaryLadder(), x -> x.oldest(0));
        dueCodeOn("reason without a refusal", -15, () -> new GranaryLadder(), x -> x.reason(true));
        dueCodeOn("character without a line", -11, () -> new GranaryLadder(), x -> x.character(0));
    }

    /** When all is undone that can be, one more undo leaves what is there, a snapshot and a text too. */
    private static void nothingToUndo() {
        for (int look = 0; look <= 2; look++) {
            GranaryLadder untouched = undone();
            GranaryLadder touched = undone();
            CHECK.due("undo", -15, touched.undo());
            CHECK.due("undo again", -15, touched.undo());
            dueAlike("nothing to undo", look == 0 ? 0 : CHANGES + look, untouched, touched);
            dueReason("nothing to undo", 8, 31, touched);
        }
    }

    private static GranaryLadder undone() {
        GranaryLadder x = Granaries.busy(TEXT);
        for (int i = 0; i < CHANGES; i++) {
            x.undo();
        }
        return x;
    }

    /** Without a snapshot the changes can still be undone. */
    private static void nothingToRestore() {
        for (int look = 0; look <= 2; look++) {
            GranaryLadder untouched = withoutSnapshot();
            GranaryLadder touched = withoutSnapshot();
            CHECK.due("restore", -15, touched.restore());
            dueAlike("nothing to restore", look, untouched, touched);
        }
    }

    private static GranaryLadder withoutSnapshot() {
        GranaryLadder x = Granaries.with(4, 2, 120, 11);
        x.tell(0);
        return x;
    }

    /** "run empties the text": that alone, if the text is wrong or can't be carried out. */
    private static void wrongTexts() {
        dueRun("", -1000);
        dueRun("store 2 w 60;", -1013);
        dueRun("store 2 w 60;pass 9;order w 9;take 9 9;fix 13x", -1045);
        dueRun("store 32 w 1", -14);
        dueRun("store 0 w 60;take 9 1;move 9>8 7;order b 3;pass 9;fix 33", -14);
        dueRun("move 0>2 99;store 1 w 99;pass 52;order b 1;take 2 1;take 2 99", -14);
    }

    private static void dueRun(String text, int answer) {
        for (int look = 0; look <= CHANGES + 2; look++) {
            GranaryLadder touched = Granaries.busy(text);
            CHECK.due("run of '" + text + "'", answer, touched.run());
            CHECK.due("the text is empty", 0, touched.account(16));
            CHECK.due("the reason behind '" + text + "'", answer == -14 ? 9 : 8, touched.reason(false));
            CHECK.due("an empty text isn't run again", -1000, touched.run());
            GranaryLadder untouched = Granaries.busy("");
            Check.type(touched, TEXT);
            Check.type(untouched, TEXT);
            dueAlike("run of '" + text + "'", look, untouched, touched);
        }
    }
}
