/** "Changes": what is one and what isn't, the latest 8, what undo, save and restore bring back, and what stays. */
public final class ChangesTest {
    private static final Check CHECK = new Check("changes");
    /** A change of each sort, two of them texts; some are made again. */
    private static final int CHANGES = 14;

    private interface Call {
        double on(GranaryLadder granary);
    }

    public static void main(String[] args) {
        eachSortIsAChange();
        nothingIsDifferent();
        noOtherCallIsAChange();
        refusedOnesAreNone();
        latestEight();
        eachChangeIsUndone();
        changesBehindAnUndo();
        neitherUndoneNorSaved();
        undoneWithItsAccounts();
        savedIsAllThatChanges();
        snapshotStays();
        inPlaceOfAnEarlierSnapshot();
        nothingCanBeUndoneThen();
        noSnapshotYet();
        balancedAtAllTimes();
        CHECK.end();
    }

    /** A granary behind so many of the changes: the same ones each time. */
    private static GranaryLadder behind(int changes) {
        GranaryLadder x = new GranaryLadder();
        for (int i = 0; i < changes; i++) {
            CHECK.due("the change " + i + " succeeds", 1, change(x, i) >= 0 ? 1 : 0);
        }
        return x;
    }

    private static int change(GranaryLadder x, int change) {
        switch (change) {
            case 0:
                return x.store(6, 0, 150);
            case 1:
                return x.store(9, 2, 70);
            case 2:
                return x.pass(11);
            case 3:
                return x.take(6, 60);
            case 4:
                return x.fix(7);
            case 5:
                return x.move(9, 8, 40);
            case 6:
                return x.order(0, 31);
            case 7:
                return Check.runText(x, "store 30 b 200;store 31 b 99;pass 1;take 31 99");
            case 8:
                return x.store(31, 3, 1);
            case 9:
                return x.order(2, 1);
            case 10:
                return x.move(30, 31, 120);
            case 11:
                return Check.runText(x, "fix 31");
            case 12:
                return x.take(31, 121);
            default:
                return x.pass(52);
        }
    }

    /** "The changes are the successful calls of store, take, move, order, fix, pass and run". */
    private static void eachSortIsAChange() {
        GranaryLadder x = new GranaryLadder();
        CHECK.due("none at first", 0, x.account(17));
        for (int i = 0; i < CHANGES; i++) {
            String before = Granaries.stateOf(behind(i));
            String after = Granaries.stateOf(behind(i + 1));
            CHECK.due("something is different by the change " + i, 0, before.equals(after) ? 1 : 0);
            change(x, i);
            CHECK.due("changes behind the change " + i, Math.min(i + 1, 8), x.account(17));
        }
    }

    /** "also those by which nothing is different": but for the weeks here, and all in all nothing in the text. */
    private static void nothingIsDifferent() {
        GranaryLadder x = new GranaryLadder();
        x.pass(1);
        CHECK.due("a week in an empty granary", 1, x.account(17));
        Check.runText(x, "store 1 w 5;take 1 5");
        CHECK.due("a text that brings and takes the same", 2, x.account(17));
        x.store(1, 0, 5);
        x.move(1, 2, 5);
        x.move(2, 1, 5);
        CHECK.due("moves there and back", 5, x.account(17));
        CHECK.due("undo", 4, x.undo());
        CHECK.due("undo the move back", 5, x.bayOf(2, 1));
        CHECK.due("undo", 3, x.undo());
        CHECK.due("undo", 2, x.undo());
        CHECK.due("undo", 1, x.undo());
        CHECK.due("the text's accounts are undone", 0, x.account(8) + x.account(9));
        CHECK.due("undo", 0, x.undo());
        CHECK.due("the week is undone", 0, x.account(0));
    }

    private static void noOtherCallIsAChange() {
        dueNoChange("bayOf", x -> x.bayOf(6, 1));
        dueNoChange("rungOf", x -> x.rungOf(7, 1));
        dueNoChange("sum", x -> x.sum(0, 31));
        dueNoChange("sumAgain", x -> x.sumAgain(0, 31));
        dueNoChange("reach", x -> x.reach(1));
        dueNoChange("reachAgain", x -> x.reachAgain(1));
        dueNoChange("steps", x -> x.steps(31));
        dueNoChange("stepsAgain", x -> x.stepsAgain(31));
        dueNoChange("oldest", x -> x.oldest(0));
        dueNoChange("commonAge", GranaryLadder::commonAge);
        dueNoChange("tightest", GranaryLadder::tightest);
        dueNoChange("bestBay", x -> x.bestBay(0, 1));
        dueNoChange("price", x -> x.price(0, 999));
        dueNoChange("append", x -> x.append('p'));
        dueNoChange("tell", x -> x.tell(0));
        dueNoChange("tellRung", x -> x.tellRung(7));
        dueNoChange("character", x -> x.character(0));
        dueNoChange("reason", x -> x.reason(true));
        dueNoChange("account", x -> x.account(3));
        dueNoChange("isBalanced", GranaryLadder::isBalanced);
        dueNoChange("meanSacks", GranaryLadder::meanSacks);
        dueNoChange("soundShare", GranaryLadder::soundShare);
        dueNoChange("save", GranaryLadder::save);
    }

    private static void dueNoChange(String name, Call call) {
        GranaryLadder x = behind(6);
        call.on(x);
        CHECK.due(name + " is no change", 6, x.account(17));
        CHECK.dueText(name + " changes nothing", Granaries.stateOf(behind(6)), Granaries.stateOf(x));
        CHECK.due("undo behind " + name, 5, x.undo());
        CHECK.dueText("the move is undone, not " + name, Granaries.stateOf(behind(5)), Granaries.stateOf(x));
    }

    private static void refusedOnesAreNone() {
        GranaryLadder x = behind(3);
        x.store(6, 1, 1);
        x.take(0, 1);
        x.move(6, 6, 1);
        x.order(1, 1);
        x.fix(1);
        x.pass(0);
        Check.runText(x, "fix 1");
        Check.runText(x, "fix");
        CHECK.due("changes", 3, x.account(17));
        CHECK.due("undo", 2, x.undo());
        CHECK.dueText("the third one is undone", Granaries.stateOf(behind(2)), Granaries.stateOf(x));
    }

    /** "The latest 8 can be undone": of 7, 8, 9, and twice 8 and 1. */
    private static void latestEight() {
        for (int changes : new int[] {1, 7, 8, 9, 16, 17}) {
            GranaryLadder x = new GranaryLadder();
            for (int i = 1; i <= changes; i++) {
                CHECK.due("store", 0, x.store(1, 0, i));
            }
            int kept = Math.min(changes, 8);
            for (int left = kept - 1; left >= 0; left--) {
                CHECK.due("undo of " + changes, left, x.undo());
                CHECK.due("changes", left, x.account(17));
                int stored = changes - kept + left;
                CHECK.due("stored by those ahead", stored * (stored + 1) / 2, x.bayOf(1, 1));
            }
            CHECK.due("no more than 8 of " + changes, -15, x.undo());
        }
    }

    /** Each change with each number of changes undone behind it: all is as it was then. */
    private static void eachChangeIsUndone() {
        for (int made = 1; made <= CHANGES; made++) {
            for (int undone = 1; undone <= Math.min(made, 8); undone++) {
                GranaryLadder x = behind(made);
                for (int i = 1; i <= undone; i++) {
                    CHECK.due("undo", Math.min(made, 8) - i, x.undo());
                }
                CHECK.dueText(undone + " undone of " + made, Granaries.stateOf(behind(made - undone)), Granaries.stateOf(x));
            }
        }
    }

    /** A change behind an undo comes in place of what was undone. */
    private static void changesBehindAnUndo() {
        GranaryLadder x = behind(9);
        x.undo();
        x.undo();
        change(x, 12);
        x.store(0, 1, 3);
        CHECK.due("6 and 1", 7, x.account(17));
        CHECK.due("undo the later one", 6, x.undo());
        CHECK.dueText("as ahead of it", Granaries.stateOf(behind(7)), Granaries.stateOf(x));
        GranaryLadder y = behind(8);
        y.undo();
        y.store(0, 1, 3);
        CHECK.due("7 and 1", 8, y.account(17));
        y.store(0, 1, 3);
        CHECK.due("no more than 8", 8, y.account(17));
        for (int left = 7; left >= 0; left--) {
            CHECK.due("undo", left, y.undo());
        }
        CHECK.dueText("the first one stays", Granaries.stateOf(behind(1)), Granaries.stateOf(y));
    }

    /** "The text, the line, the reason and its detail are neither undone nor saved, and stay". */
    private static void neitherUndoneNorSaved() {
        GranaryLadder x = new GranaryLadder();
        x.save();
        x.store(3, 1, 8);
        x.tell(0);
        x.take(3, 9);
        Check.type(x, "take 3 ");
        dueStay("ahead", 7, x);
        x.undo();
        dueStay("at undo", 7, x);
        x.store(3, 1, 8);
        x.restore();
        dueStay("at restore", 7, x);
        x.save();
        x.append('1');
        dueStay("at save", 8, x);
        x.restore();
        dueStay("at the second restore", 8, x);
        x.store(3, 1, 8);
        CHECK.due("the text is carried out", 1, x.run());
        CHECK.due("undo the run", 1, x.undo());
        dueStay("a text that was run doesn't come back", 0, x);
        CHECK.due("the sacks do", 8, x.bayOf(3, 1));
    }

    private static void dueStay(String name, int length, GranaryLadder x) {
        CHECK.due(name + ": the text", length, x.account(16));
        CHECK.dueText(name + ": the line", ". . . r8 . . . .", Check.line(x));
        CHECK.due(name + ": the reason", 3, x.reason(false));
        CHECK.due(name + ": the detail", 8, x.reason(true));
    }

    /** Each account of what happened so far is one that changes can change. */
    private static void undoneWithItsAccounts() {
        GranaryLadder x = behind(7);
        int[] due = {11, 50 - 2 + 121, 3, 59 + 63, 59, 0, 63, 0, 220, 60, 31, 7, 40, 0, 1, 2};
        for (int what = 0; what < due.length; what++) {
            CHECK.due("account " + what, due[what], x.account(what));
        }
        for (int left = 6; left >= 0; left--) {
            x.undo();
        }
        for (int what = 0; what <= 17; what++) {
            CHECK.due("account " + what + " when all is undone", what == 1 ? 50 : 0, x.account(what));
        }
    }

    /** "Saves all that changes can change". */
    private static void savedIsAllThatChanges() {
        for (int saved = 0; saved <= CHANGES; saved++) {
            GranaryLadder x = behind(saved);
            CHECK.due("save behind " + saved, x.account(3), x.save());
            for (int i = saved; i < CHANGES; i++) {
                change(x, i);
            }
            x.store(17, 1, 200);
            x.pass(16);
            CHECK.due("restore behind " + saved, behind(saved).account(3), x.restore());
            CHECK.dueText("restored behind " + saved, Granaries.stateOf(behind(saved)), Granaries.stateOf(x));
        }
    }

    /** "Restores the snapshot, which stays": through changes, undo and further ones. */
    private static void snapshotStays() {
        GranaryLadder x = behind(5);
        x.save();
        for (int i = 5; i < CHANGES; i++) {
            change(x, i);
        }
        for (int i = 0; i < 8; i++) {
            x.undo();
        }
        CHECK.due("restore", 133, x.restore() - 20);
        change(x, 5);
        CHECK.due("restore again", 153, x.restore());
        x.take(6, 90);
        x.undo();
        x.restore();
        CHECK.dueText("as it was saved", Granaries.stateOf(behind(5)), Granaries.stateOf(x));
        GranaryLadder y = behind(2);
        y.save();
        y.undo();
        y.undo();
        CHECK.due("undone beyond the snapshot", 0, y.account(3));
        CHECK.due("restore what was undone", 220, y.restore());
        CHECK.dueText("as it was saved", Granaries.stateOf(behind(2)), Granaries.stateOf(y));
    }

    /** "in place of an earlier snapshot". */
    private static void inPlaceOfAnEarlierSnapshot() {
        GranaryLadder x = behind(3);
        x.save();
        change(x, 3);
        x.save();
        change(x, 4);
        x.restore();
        CHECK.dueText("the later one", Granaries.stateOf(behind(4)), Granaries.stateOf(x));
        CHECK.due("save what was restored", x.account(3), x.save());
        x.pass(52);
        x.restore();
        CHECK.dueText("once more", Granaries.stateOf(behind(4)), Granaries.stateOf(x));
        GranaryLadder y = new GranaryLadder();
        CHECK.due("save an empty granary", 0, y.save());
        y.store(0, 0, 9);
        CHECK.due("restore an empty granary", 0, y.restore());
        CHECK.dueText("empty", Granaries.stateOf(new GranaryLadder()), Granaries.stateOf(y));
        CHECK.due("save a full granary", 6400, Granaries.full().save());
    }

    /** "Nothing can be undone then". */
    private static void nothingCanBeUndoneThen() {
        GranaryLadder x = behind(8);
        x.save();
        x.restore();
        CHECK.due("changes", 0, x.account(17));
        CHECK.due("undo", -15, x.undo());
        CHECK.dueText("unchanged", Granaries.stateOf(behind(8)), Granaries.stateOf(x));
        change(x, 8);
        CHECK.due("changes", 1, x.account(17));
        CHECK.due("undo", 0, x.undo());
        CHECK.due("undo", -15, x.undo());
        for (int i = 1; i <= 9; i++) {
            x.pass(1);
            CHECK.due("changes since then", Math.min(i, 8), x.account(17));
        }
    }

    private static void noSnapshotYet() {
        GranaryLadder x = behind(4);
        CHECK.due("restore", -15, x.restore());
        CHECK.due("changes", 4, x.account(17));
        CHECK.due("undo", 3, x.undo());
        CHECK.due("restore", -15, x.restore());
        CHECK.dueText("unchanged", Granaries.stateOf(behind(3)), Granaries.stateOf(x));
        CHECK.due("another granary's snapshot isn't this one's", 0, new GranaryLadder().save());
        CHECK.due("restore", -15, x.restore());
    }

    /** "whether each rung tells the sum of its bays, and the sacks are those stored, less those taken, sold and spoilt". */
    private static void balancedAtAllTimes() {
        for (int i = 0; i <= CHANGES; i++) {
            GranaryLadder x = behind(i);
            int gone = x.account(9) + x.account(10) + x.account(11);
            CHECK.due("balanced behind " + i, 1, x.isBalanced());
            CHECK.due("stored less what is gone behind " + i, x.account(8) - gone, x.account(3));
            CHECK.due("all kinds behind " + i, x.account(3), x.account(4) + x.account(5) + x.account(6) + x.account(7));
            x.undo();
            CHECK.due("balanced behind " + i + ", undone", 1, x.isBalanced());
        }
        CHECK.due("balanced when it is full", 1, Granaries.full().isBalanced());
        CHECK.due("balanced when all is taken", 1, Granaries.crackedAndEmpty().isBalanced());
    }
}
