/** Counts the answers that are not as due, and ends a test with exit code 1 if there was one. */
final class Check {
    private final String title;
    private int right = 0;
    private int wrong = 0;

    Check(String title) {
        this.title = title;
    }

    void due(String call, long want, long got) {
        note(call, want == got, Long.toString(want), Long.toString(got));
    }

    void dueText(String call, String want, String got) {
        note(call, want.equals(got), want, got);
    }

    void dueNumber(String call, double want, double got) {
        note(call, want == got, Double.toString(want), Double.toString(got));
    }

    private void note(String call, boolean isRight, String want, String got) {
        if (isRight) {
            right++;
        } else {
            wrong++;
            System.out.println(title + ": " + call + " answered " + got + ", due is " + want);
        }
    }

    void end() {
        System.out.println(title + ": " + right + " answers as due, " + wrong + " not");
        if (wrong != 0 || right == 0) {
            System.exit(1);
        }
    }

    /** Appends all characters of a text and answers the last answer. */
    static int type(GranaryLadder granary, String text) {
        int answer = 0;
        for (int i = 0; i < text.length(); i++) {
            answer = granary.append(text.charAt(i));
        }
        return answer;
    }

    static int runText(GranaryLadder granary, String text) {
        type(granary, text);
        return granary.run();
    }

    static String line(GranaryLadder granary) {
        StringBuilder line = new StringBuilder();
        for (int i = 0; i < 60 && granary.character(i) != GranaryLadder.NONE; i++) {
            line.append((char) granary.character(i));
        }
        return line.toString();
    }

    /** A granary with rungs that have cracked in the way that the tests of steps use: 1, 2, 3, 4. */
    static GranaryLadder withCrackedCorner() {
        GranaryLadder granary = new GranaryLadder();
        for (int bay = 0; bay < 4; bay++) {
            granary.store(bay, 0, 200);
        }
        return granary;
    }
}
