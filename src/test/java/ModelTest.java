import java.util.Random;

/** Long runs of calls, always the same ones, on the class and on the model side by side: all answers are alike. */
public final class ModelTest {
    private static final Check CHECK = new Check("model");
    private static final int RUNS = 600;
    private static final int CALLS = 400;
    private static final int[] STRANGE = {Integer.MIN_VALUE, Integer.MIN_VALUE + 1, -1000, -33, -32, -1, 0, 1, 31, 32, 33,
        52, 53, 60, 126, 127, 200, 201, 999, 1000, 9999, 10000, Integer.MAX_VALUE - 1, Integer.MAX_VALUE};

    private final Random random;
    private final GranaryLadder granary = new GranaryLadder();
    private final Model model = new Model();
    private final String name;
    /** A run keeps to few bays or uses all, to few sacks or many, so that each state is met often. */
    private final int bays;
    private final int sacks;
    private final int kinds;
    private final boolean isStrange;
    private final boolean isFull;
    private String pending = "";

    private ModelTest(int run) {
        random = new Random(run);
        name = "run " + run + ": ";
        bays = 1 + random.nextInt(32);
        sacks = random.nextBoolean() ? 200 : 30;
        kinds = 1 + random.nextInt(4);
        isStrange = run % 10 == 9;
        isFull = run % 4 == 3;
    }

    public static void main(String[] args) {
        for (int run = 0; run < RUNS; run++) {
            new ModelTest(run).go();
        }
        CHECK.end();
    }

    /** Nearly all bays get grain, so that great rungs crack too. */
    private void fill() {
        int least = 1 + random.nextInt(150);
        for (int bay = 0; bay < 32; bay++) {
            int kind = random.nextInt(kinds);
            int load = least + random.nextInt(201 - least);
            if (random.nextInt(30) > 0) {
                due("store(" + bay + ", " + kind + ", " + load + ")", model.store(bay, kind, load), granary.store(bay, kind, load));
            }
        }
    }

    private void go() {
        if (isFull) {
            fill();
        }
        for (int call = 0; call < CALLS; call++) {
            if (!pending.isEmpty()) {
                int code = pending.charAt(0);
                pending = pending.substring(1);
                due("append(" + code + ")", model.append(code), granary.append(code));
                if (pending.isEmpty()) {
                    call++;
                    due("run()", model.run(), granary.run());
                }
            } else if (random.nextInt(5) < 3) {
                change();
            } else {
                look(random.nextInt(22));
            }
        }
    }

    private void due(String call, long want, long got) {
        CHECK.due(name + call, want, got);
    }

    private int number(int least, int most) {
        if (isStrange && random.nextInt(4) == 0) {
            return STRANGE[random.nextInt(STRANGE.length)];
        }
        return random.nextInt(40) == 0 ? (random.nextBoolean() ? least - 1 : most + 1) : least + random.nextInt(most - least + 1);
    }

    private int bay() {
        return number(0, random.nextInt(20) == 0 ? 31 : bays - 1);
    }

    private int kind() {
        return number(0, kinds - 1);
    }

    private int rung() {
        return number(1, random.nextInt(3) == 0 ? 32 : bays);
    }

    private int weeks() {
        return number(1, random.nextInt(6) == 0 ? 52 : 5);
    }

    private void change() {
        int a = bay();
        int b = bay();
        int k = kind();
        int n = number(1, sacks);
        int r = rung();
        int w = weeks();
        switch (random.nextInt(16)) {
            case 0:
            case 1:
            case 2:
            case 3:
                due("store(" + a + ", " + k + ", " + n + ")", model.store(a, k, n), granary.store(a, k, n));
                break;
            case 4:
            case 5:
                due("take(" + a + ", " + n + ")", model.take(a, n), granary.take(a, n));
                break;
            case 6:
            case 7:
                due("move(" + a + ", " + b + ", " + n + ")", model.move(a, b, n), granary.move(a, b, n));
                break;
            case 8:
                int m = number(1, random.nextInt(4) == 0 ? 999 : 60);
                due("order(" + k + ", " + m + ")", model.order(k, m), granary.order(k, m));
                break;
            case 9:
            case 10:
                due("fix(" + r + ")", model.fix(r), granary.fix(r));
                break;
            case 11:
                due("pass(" + w + ")", model.pass(w), granary.pass(w));
                break;
            case 12:
                due("undo()", model.undo(), granary.undo());
                break;
            case 13:
                pending = text();
                break;
            case 14:
                if (random.nextInt(4) == 0) {
                    due("save()", model.save(), granary.save());
                }
                break;
            default:
                if (random.nextInt(6) == 0) {
                    due("restore()", model.restore(), granary.restore());
                }
                break;
        }
    }

    /** Some commands, of which a character is at times another one, is gone, or comes twice. */
    private String text() {
        StringBuilder text = new StringBuilder(command());
        for (int i = random.nextInt(5); i > 0 && text.length() < 45; i--) {
            text.append(';').append(command());
        }
        if (random.nextInt(3) == 0) {
            int place = random.nextInt(text.length());
            switch (random.nextInt(4)) {
                case 0:
                    text.setCharAt(place, "01w;> sfx9~".charAt(random.nextInt(11)));
                    break;
                case 1:
                    text.deleteCharAt(place);
                    break;
                case 2:
                    text.insert(place, text.charAt(place));
                    break;
                default:
                    text.setLength(place);
                    break;
            }
        }
        return text.toString();
    }

    private String command() {
        int a = Math.floorMod(bay(), 100);
        int n = Math.floorMod(number(1, random.nextInt(3) == 0 ? sacks : 10), 1000);
        char k = "wrob".charAt(random.nextInt(kinds));
        switch (random.nextInt(9)) {
            case 0:
            case 1:
            case 2:
                return "store " + a + " " + k + " " + n;
            case 3:
                return "take " + a + " " + n;
            case 4:
                return "move " + a + ">" + (bays > 9 ? 1 : 0) + random.nextInt(Math.min(bays, 10)) + " " + n;
            case 5:
                return "order " + k + " " + n;
            case 6:
                return "fix " + Math.floorMod(rung(), 100);
            default:
                return "pass " + random.nextInt(4);
        }
    }

    private void look(int what) {
        int a = bay();
        int b = bay();
        int k = kind();
        int n = number(1, 200);
        int r = rung();
        int t = number(0, 5);
        int p = number(0, 31);
        int c = number(1, random.nextBoolean() ? 300 : 9999);
        switch (what) {
            case 0:
            case 1:
                due("bayOf(" + a + ", " + t + ")", model.bayOf(a, t), granary.bayOf(a, t));
                break;
            case 2:
                due("rungOf(" + r + ", " + t + ")", model.rungOf(r, t), granary.rungOf(r, t));
                break;
            case 3:
                due("sum(" + a + ", " + b + ")", model.sum(a, b), granary.sum(a, b));
                break;
            case 4:
                due("sumAgain(" + a + ", " + b + ")", model.sum(a, b), granary.sumAgain(a, b));
                break;
            case 5:
                due("reach(" + c + ")", model.reach(c), granary.reach(c));
                break;
            case 6:
                due("reachAgain(" + c + ")", model.reach(c), granary.reachAgain(c));
                break;
            case 7:
                due("steps(" + p + ")", model.steps(p), granary.steps(p));
                break;
            case 8:
                due("stepsAgain(" + p + ")", model.steps(p), granary.stepsAgain(p));
                break;
            case 9:
                due("oldest(" + a + ")", model.oldest(a), granary.oldest(a));
                break;
            case 10:
                due("commonAge()", model.commonAge(), granary.commonAge());
                break;
            case 11:
                due("tightest()", model.tightest(), granary.tightest());
                break;
            case 12:
            case 13:
                due("bestBay(" + k + ", " + n + ")", model.bestBay(k, n), granary.bestBay(k, n));
                break;
            case 14:
                due("price(" + k + ", " + c + ")", model.price(k, c), granary.price(k, c));
                break;
            default:
                lookAtTheRest(what);
                break;
        }
    }

    private void lookAtTheRest(int what) {
        int n = number(0, 17);
        int row = number(0, 3);
        int rung = rung();
        int index = number(0, 40);
        boolean isDetail = random.nextBoolean();
        switch (what) {
            case 15:
                due("tell(" + row + ")", model.tell(row), granary.tell(row));
                break;
            case 16:
                due("tellRung(" + rung + ")", model.tellRung(rung), granary.tellRung(rung));
                break;
            case 17:
                due("character(" + index + ")", model.character(index), granary.character(index));
                break;
            case 18:
                due("reason(" + isDetail + ")", model.reason(isDetail), granary.reason(isDetail));
                break;
            case 19:
                due("account(" + n + ")", model.account(n), granary.account(n));
                break;
            case 20:
                due("isBalanced()", 1, granary.isBalanced());
                CHECK.dueNumber(name + "meanSacks()", model.meanSacks(), granary.meanSacks());
                break;
            default:
                CHECK.dueNumber(name + "soundShare()", model.soundShare(), granary.soundShare());
                break;
        }
    }
}
