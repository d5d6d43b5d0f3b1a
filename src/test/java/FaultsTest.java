import java.util.regex.Matcher;
import java.util.regex.Pattern;

/**
 * "Texts" by its edges: right texts with each of their characters left out, put in again and changed, beside the syntax as
 * a regular expression, which tells too whether a beginning can be continued.
 */
public final class FaultsTest {
    private static final Check CHECK = new Check("faults");
    private static final String BAY = "[0-9]{1,2}";
    private static final String SACKS = "[0-9]{1,3}";
    private static final String COMMAND = "(store " + BAY + " [wrob] " + SACKS + "|take " + BAY + " " + SACKS + "|move " + BAY + ">" + BAY
            + " " + SACKS + "|order [wrob] " + SACKS + "|fix " + BAY + "|pass " + BAY + ")";
    private static final Pattern TEXT = Pattern.compile(COMMAND + "(;" + COMMAND + ")*");
    /** The least and the most digits, each kind, and two commands with each other. */
    private static final String[] RIGHT = {
        "store 0 w 1", "store 31 r 200", "store 99 o 999", "store 00 b 000", "take 0 1", "take 31 200", "take 99 999", "move 0>1 1",
        "move 31>30 200", "move 99>98 999", "order w 1", "order r 99", "order o 999", "order b 000", "fix 1", "fix 32", "fix 00",
        "pass 1", "pass 52", "pass 99", "pass 1;pass 1", "fix 1;store 1 w 1", "take 10 100;move 10>11 100", "order b 1;fix 9;pass 52",
    };
    private static final int MOST = 60;

    public static void main(String[] args) {
        oracle();
        beginnings();
        changedCharacters();
        leftOut();
        putIn();
        numbersOfDigits();
        lettersOfKinds();
        words();
        signsBetween();
        atTheMostCharacters();
        wrongBehindWhatFails();
        CHECK.end();
    }

    // ---- what is due

    private static boolean canContinue(String beginning) {
        Matcher matcher = TEXT.matcher(beginning);
        return matcher.matches() || matcher.hitEnd();
    }

    /** -1 if the text is right. */
    private static int faultOf(String text) {
        if (TEXT.matcher(text).matches()) {
            return -1;
        }
        int length = 0;
        while (length < text.length() && canContinue(text.substring(0, length + 1))) {
            length++;
        }
        return length;
    }

    /** A right text is carried out, or refused for the reason 9; a wrong one gives no reason and changes nothing but the text. */
    private static void dueText(String text) {
        int fault = faultOf(text);
        GranaryLadder x = new GranaryLadder();
        int answer = Check.runText(x, text);
        if (fault < 0) {
            CHECK.due("right: '" + text + "' answers " + answer, 1, answer > 0 || answer == -14 ? 1 : 0);
            CHECK.due("reason of '" + text + "'", answer == -14 ? 9 : -15, x.reason(false));
        } else {
            CHECK.due("run of '" + text + "'", -1000 - fault, answer);
            CHECK.due("reason of '" + text + "'", -15, x.reason(false));
            CHECK.due("changes by '" + text + "'", 0, x.account(17));
        }
        CHECK.due("characters behind '" + text + "'", 0, x.account(16));
    }

    /** The regular expression itself is looked at, by texts whose faults are counted by hand. */
    private static void oracle() {
        CHECK.due("empty", 0, faultOf(""));
        CHECK.due("right", -1, faultOf("store 1 w 1;pass 52"));
        CHECK.due("too early", 11, faultOf("store 12 w "));
        CHECK.due("three digits", 8, faultOf("store 123 w 1"));
        CHECK.due("a word's letter", 3, faultOf("pasta 1"));
        CHECK.due("no command behind", 6, faultOf("fix 1;"));
    }

    // ---- right texts that are changed

    /** "or its length if it ends too early". */
    private static void beginnings() {
        for (String right : RIGHT) {
            for (int length = 0; length <= right.length(); length++) {
                dueText(right.substring(0, length));
            }
        }
    }

    private static void changedCharacters() {
        for (String right : RIGHT) {
            for (int i = 0; i < right.length(); i++) {
                for (char sign = 32; sign <= 126; sign++) {
                    dueText(right.substring(0, i) + sign + right.substring(i + 1));
                }
            }
        }
    }

    private static void leftOut() {
        for (String right : RIGHT) {
            for (int i = 0; i < right.length(); i++) {
                dueText(right.substring(0, i) + right.substring(i + 1));
            }
        }
    }

    private static void putIn() {
        for (String right : RIGHT) {
            for (int i = 0; i <= right.length(); i++) {
                for (char sign : new char[] {' ', ';', '>', '0', '9', '-', '+', '.', 'w', 's', right.charAt(Math.max(i - 1, 0))}) {
                    dueText(right.substring(0, i) + sign + right.substring(i));
                }
            }
        }
    }

    // ---- the sentences of "Texts"

    private static void dueRight(String text, int answer) {
        CHECK.due("run of '" + text + "'", answer, Check.runText(new GranaryLadder(), text));
    }

    /** "Bays, rungs and weeks have one or two digits, sacks one to three": none, and one too many, are wrong. */
    private static void numbersOfDigits() {
        dueRight("pass ", -1005);
        dueRight("pass 1", 1);
        dueRight("pass 01", 1);
        dueRight("pass 52", 1);
        dueRight("pass 052", -1007);
        dueRight("fix 001", -1006);
        dueRight("fix 01", -14);
        dueRight("store  w 1", -1006);
        dueRight("store 00 w 001", 1);
        dueRight("store 000 w 1", -1008);
        dueRight("store 0 w 0001", -1013);
        dueRight("store 0 w ", -1010);
        dueRight("take 000 1", -1007);
        dueRight("take 0 0001", -1010);
        dueRight("move 000>1 1", -1007);
        dueRight("move 0>001 1", -1009);
        dueRight("move 0>1 0001", -1012);
        dueRight("order w 0001", -1011);
        dueRight("order w 001", -14);
        dueRight("pass 53", -14);
        dueRight("pass 00", -14);
        dueRight("store 32 w 1", -14);
        dueRight("store 0 w 201", -14);
        dueRight("store 0 w 000", -14);
    }

    /** "a kind as one of the letters "w", "r", "o" and "b"". */
    private static void lettersOfKinds() {
        String letters = "wrob";
        for (char sign = 32; sign <= 126; sign++) {
            GranaryLadder x = new GranaryLadder();
            int kind = letters.indexOf(sign);
            CHECK.due("store of the kind " + sign, kind < 0 ? -1008 : 1, Check.runText(x, "store 7 " + sign + " 3"));
            CHECK.due("the kind " + sign, kind < 0 ? -15 : kind, x.bayOf(7, 0));
            x = Granaries.with(7, Math.max(kind, 0), 3, 0);
            CHECK.due("order of the kind " + sign, kind < 0 ? -1006 : 1, Check.runText(x, "order " + sign + " 3"));
            CHECK.due("left of the kind " + sign, kind < 0 ? 3 : 0, x.bayOf(7, 1));
        }
    }

    /** "words are looked at letter by letter": the first wrong letter of each word is told, and no capital is right. */
    private static void words() {
        String[] rests = {"store 1 w 1", "take 1 1", "move 1>2 1", "order w 1", "fix 1", "pass 1"};
        for (String rest : rests) {
            for (int i = 0; i < rest.indexOf(' '); i++) {
                dueRight(rest.substring(0, i) + Character.toUpperCase(rest.charAt(i)) + rest.substring(i + 1), -1000 - i);
                dueRight(rest.substring(0, i), -1000 - i);
                dueRight(rest.substring(0, i) + "z" + rest.substring(i + 1), -1000 - i);
            }
            int end = rest.indexOf(' ');
            dueRight(rest.substring(0, end), -1000 - end);
            dueRight(rest.substring(0, end) + "s" + rest.substring(end), -1000 - end);
        }
    }

    /** "one or more commands with ";" between them": none ahead, none behind, not two, no other sign. */
    private static void signsBetween() {
        dueRight("pass 1;pass 1", 2);
        dueRight("", -1000);
        dueRight(";", -1000);
        dueRight(";pass 1", -1000);
        dueRight("pass 1;", -1007);
        dueRight("pass 1;;pass 1", -1007);
        dueRight("pass 1; pass 1", -1007);
        dueRight("pass 1 ;pass 1", -1006);
        dueRight("pass 1 pass 1", -1006);
        dueRight("pass 1:pass 1", -1006);
        dueRight("pass 12:pass 1", -1007);
        dueRight("pass 12pass 1", -1007);
    }

    /** Texts of 59 and of 60 characters, the last of which decides. */
    private static void atTheMostCharacters() {
        String eight = "pass 1;".repeat(8);
        dueRight(eight + "p", -1057);
        dueRight(eight + "fix", -1059);
        dueRight(eight + "pass", -1060);
        dueRight("pass 52;" + "pass 1;".repeat(7) + "x", -1057);
        String full = "store 0 w 100;take 0 100;pass 1;pass 1;pass 1;pass 1;pass 52";
        CHECK.due("as long as can be", MOST, full.length());
        dueRight(full, 7);
        dueRight(full.substring(0, MOST - 1), 7);
        dueRight(full.substring(0, MOST - 1) + ";", -1060);
        dueRight(full.substring(0, MOST - 1) + "x", -1059);
        dueRight("fix 1;".repeat(9) + "fix 1", -14);
        dueRight("fix 1;".repeat(10), -1060);
        dueRight("fix 1;".repeat(9) + "fix 11", -14);
        dueRight("fix 1;".repeat(9) + "fixing", -1057);
    }

    /** The whole text is read ahead of the first command. */
    private static void wrongBehindWhatFails() {
        GranaryLadder x = new GranaryLadder();
        CHECK.due("wrong at its end", -1021, Check.runText(x, "fix 1;pass 1;take 1 1?"));
        CHECK.due("no reason", -15, x.reason(false));
        CHECK.due("right, and the first one fails", -14, Check.runText(x, "fix 1;pass 1;take 1 1"));
        CHECK.due("the reason", 9, x.reason(false));
        CHECK.due("the first one", 0, x.reason(true));
        CHECK.due("wrong at its end", -1010, Check.runText(x, "pass 1;fix"));
        CHECK.due("no week goes by", 0, x.account(0));
        CHECK.due("the reason is kept", 9, x.reason(false));
    }
}
