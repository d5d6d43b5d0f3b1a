/** Promises 26 to 33: reasons, accounts, balance, means, undo and the snapshot. */
public final class AccountsTest {
    private static final Check CHECK = new Check("accounts");

    public static void main(String[] args) {
        reasons();
        accounts();
        wrongAccounts();
        balance();
        means();
        shares();
        undoing();
        undoingEachChange();
        undoingEight();
        undoingNothing();
        saving();
        restoring();
        CHECK.end();
    }

    private static void reasons() {
        GranaryLadder x = new GranaryLadder();
        CHECK.due("nothing was refused", -15, x.reason(false));
        CHECK.due("nothing was refused", -15, x.reason(true));
        x.store(32, 0, 1);
        x.store(0, 0, 0);
        CHECK.due("other codes are no reasons", -15, x.reason(false));
        x.take(0, 1);
        CHECK.due("reason", 8, x.reason(false));
        CHECK.due("detail", 0, x.reason(true));
        x.fix(5);
        CHECK.due("the latest reason", 6, x.reason(false));
        CHECK.due("the latest detail", 5, x.reason(true));
        x.store(0, 0, 1);
        x.take(0, 0);
        CHECK.due("it is kept", 6, x.reason(false));
        x.save();
        x.order(1, 3);
        x.undo();
        CHECK.due("it is not undone", 3, x.reason(false));
        x.restore();
        CHECK.due("it is not restored", 3, x.reason(false));
        CHECK.due("the detail is not restored", 0, x.reason(true));
    }

    private static void accounts() {
        GranaryLadder x = new GranaryLadder();
        x.store(0, 0, 110);
        x.store(1, 1, 20);
        x.store(2, 2, 30);
        x.store(3, 3, 40);
        x.store(4, 2, 5);
        x.pass(2);
        x.take(0, 10);
        x.move(2, 4, 7);
        x.order(3, 15);
        x.fix(1);
        x.pass(9);
        Check.type(x, "abc");
        int[] due = {11, 93, 5, 175, 100, 20, 30, 25, 205, 10, 15, 5, 7, 0, 1, 2, 3, 8};
        for (int what = 0; what < due.length; what++) {
            CHECK.due("account " + what, due[what], x.account(what));
        }
        x.store(0, 0, 1);
        CHECK.due("cracked", 1, x.account(13));
        CHECK.due("cracked so far", 2, x.account(14));
        CHECK.due("changes", 8, x.account(17));
    }

    private static void wrongAccounts() {
        GranaryLadder x = new GranaryLadder();
        CHECK.due("account -1", -12, x.account(-1));
        CHECK.due("account 18", -12, x.account(18));
        CHECK.due("the least account", -12, x.account(Integer.MIN_VALUE));
        CHECK.due("the greatest account", -12, x.account(Integer.MAX_VALUE));
    }

    private static void balance() {
        GranaryLadder x = new GranaryLadder();
        CHECK.due("at first", 1, x.isBalanced());
        x.store(30, 2, 170);
        x.store(31, 2, 30);
        CHECK.due("stored", 1, x.isBalanced());
        x.pass(12);
        CHECK.due("spoilt", 1, x.isBalanced());
        x.take(30, 9);
        CHECK.due("taken", 1, x.isBalanced());
        x.order(2, 44);
        CHECK.due("sold", 1, x.isBalanced());
        x.move(31, 0, 5);
        CHECK.due("moved", 1, x.isBalanced());
        x.undo();
        x.undo();
        CHECK.due("undone", 1, x.isBalanced());
        x.save();
        x.take(30, 1);
        x.restore();
        CHECK.due("restored", 1, x.isBalanced());
    }

    private static void means() {
        GranaryLadder x = new GranaryLadder();
        CHECK.dueNumber("without grain", 0.0, x.meanSacks());
        x.store(3, 0, 10);
        CHECK.dueNumber("one bay", 10.0, x.meanSacks());
        x.store(4, 1, 15);
        CHECK.dueNumber("two bays", 12.5, x.meanSacks());
        x.store(31, 2, 15);
        CHECK.dueNumber("three bays", 40.0 / 3.0, x.meanSacks());
        x.take(3, 10);
        x.take(4, 15);
        x.take(31, 15);
        CHECK.dueNumber("without grain again", 0.0, x.meanSacks());
    }

    private static void shares() {
        GranaryLadder x = new GranaryLadder();
        CHECK.dueNumber("all sound", 1.0f, x.soundShare());
        x.store(0, 0, 150);
        CHECK.dueNumber("31 of 32", 31.0f / 32.0f, x.soundShare());
        CHECK.dueNumber("28 of 32", 0.875f, Check.withCrackedCorner().soundShare());
        for (int bay = 0; bay < 32; bay++) {
            x.store(bay, 0, bay == 0 ? 50 : 200);
        }
        CHECK.dueNumber("none", 0.0f, x.soundShare());
    }

    private static void undoing() {
        GranaryLadder x = new GranaryLadder();
        CHECK.due("nothing to undo", -15, x.undo());
        x.store(4, 1, 60);
        x.pass(3);
        x.store(4, 1, 60);
        CHECK.due("cracked", 1, x.rungOf(5, 3));
        CHECK.due("undo", 2, x.undo());
        CHECK.due("sacks", 60, x.bayOf(4, 1));
        CHECK.due("age", 3, x.bayOf(4, 2));
        CHECK.due("cracks so far", 0, x.account(14));
        CHECK.due("stored", 60, x.account(8));
        CHECK.due("undo", 1, x.undo());
        CHECK.due("weeks", 0, x.account(0));
        CHECK.due("age", 0, x.bayOf(4, 2));
        CHECK.due("undo", 0, x.undo());
        CHECK.due("empty", -15, x.bayOf(4, 0));
        CHECK.due("nothing to undo", -15, x.undo());
    }

    private static String accountsOf(GranaryLadder x) {
        StringBuilder all = new StringBuilder();
        for (int what = 0; what <= 15; what++) {
            all.append(x.account(what)).append(' ');
        }
        for (int row = 0; row < 4; row++) {
            x.tell(row);
            all.append(Check.line(x)).append('|');
        }
        all.append(x.tightest()).append(' ').append(x.oldest(0)).append(' ').append(x.commonAge());
        return all.toString();
    }

    private static GranaryLadder prepared() {
        GranaryLadder x = new GranaryLadder();
        x.store(6, 0, 101);
        x.store(9, 3, 12);
        x.take(6, 60);
        x.pass(15);
        return x;
    }

    private static void undoingEachChange() {
        String before = accountsOf(prepared());
        for (int change = 0; change < 7; change++) {
            GranaryLadder x = prepared();
            int answer = change(x, change);
            CHECK.due("change " + change + " succeeds", 1, answer >= 0 ? 1 : 0);
            CHECK.due("change " + change + " can be undone", 5, x.account(17));
            CHECK.due("change " + change + " changes", 0, before.equals(accountsOf(x)) ? 1 : 0);
            GranaryLadder y = prepared();
            change(y, change);
            CHECK.due("undo " + change, 4, y.undo());
            CHECK.dueText("change " + change + " is undone", before, accountsOf(y));
        }
    }

    private static int change(GranaryLadder x, int change) {
        switch (change) {
            case 0:
                return x.store(0, 0, 150);
            case 1:
                return x.take(9, 8);
            case 2:
                return x.move(6, 7, 41);
            case 3:
                return x.order(0, 41);
            case 4:
                return x.fix(7);
            case 5:
                return x.pass(7);
            default:
                return Check.runText(x, "store 1 o 9;fix 7");
        }
    }

    private static void undoingEight() {
        GranaryLadder x = new GranaryLadder();
        for (int i = 1; i <= 18; i++) {
            x.store(3, 0, i);
            CHECK.due("changes", Math.min(i, 8), x.account(17));
            x.store(3, 1, i);
            CHECK.due("a refused one is no change", Math.min(i, 8), x.account(17));
            x.restore();
        }
        CHECK.due("undo", 7, x.undo());
        CHECK.due("undo", 6, x.undo());
        CHECK.due("without 17 and 18", 136, x.bayOf(3, 1));
        x.store(3, 0, 1);
        CHECK.due("changes", 7, x.account(17));
        for (int left = 6; left >= 0; left--) {
            CHECK.due("undo", left, x.undo());
        }
        CHECK.due("the oldest ones stay", 55, x.bayOf(3, 1));
        CHECK.due("no more", -15, x.undo());
        CHECK.due("changes", 0, x.account(17));
        CHECK.due("unchanged", 55, x.account(8));
    }

    private static void undoingNothing() {
        GranaryLadder x = new GranaryLadder();
        x.pass(1);
        x.save();
        CHECK.due("save is no change", 1, x.account(17));
        x.append('f');
        x.tell(0);
        x.steps(3);
        x.bestBay(0, 1);
        CHECK.due("neither are these", 1, x.account(17));
        CHECK.due("undo", 0, x.undo());
        CHECK.due("the text stays", 1, x.account(16));
    }

    private static void saving() {
        GranaryLadder x = new GranaryLadder();
        CHECK.due("save", 0, x.save());
        x.store(0, 2, 60);
        x.store(31, 1, 6);
        CHECK.due("save all sacks", 66, x.save());
        x.take(0, 20);
        CHECK.due("restore the later one", 66, x.restore());
        CHECK.due("sacks", 60, x.bayOf(0, 1));
        CHECK.due("taken", 0, x.account(9));
        x.take(31, 6);
        CHECK.due("save", 60, x.save());
        CHECK.due("in place of the earlier one", 60, x.restore());
    }

    private static void restoring() {
        GranaryLadder x = new GranaryLadder();
        x.store(4, 0, 20);
        CHECK.due("no snapshot", -15, x.restore());
        CHECK.due("unchanged", 1, x.account(17));
        CHECK.due("undo", 0, x.undo());
        CHECK.due("undone", 0, x.account(3));
        GranaryLadder y = prepared();
        String saved = accountsOf(prepared());
        y.save();
        for (int change = 0; change < 6; change++) {
            change(y, change);
            CHECK.due("restore after change " + change, 49, y.restore());
            CHECK.due("nothing can be undone", 0, y.account(17));
            CHECK.due("nothing can be undone", -15, y.undo());
        }
        CHECK.dueText("all is as it was saved", saved, accountsOf(y));
        y.pass(1);
        CHECK.due("one change since then", 1, y.account(17));
        CHECK.due("it is undone", 0, y.undo());
    }
}
