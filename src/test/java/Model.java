import java.util.ArrayDeque;
import java.util.ArrayList;
import java.util.Comparator;
import java.util.Deque;
import java.util.List;
import java.util.regex.Matcher;
import java.util.regex.Pattern;

/**
 * The document once more, written in other ways than the class: sums are counted bay by bay each time, a rung's
 * neighbours are found by what covers what, orders are sorted lists, texts are matched by one pattern.
 */
final class Model {
    private static final String COMMAND =
            "(?:store \\d{1,2} [wrob] \\d{1,3}|take \\d{1,2} \\d{1,3}|move \\d{1,2}>\\d{1,2} \\d{1,3}"
            + "|order [wrob] \\d{1,3}|fix \\d{1,2}|pass \\d{1,2})";
    private static final Pattern TEXT = Pattern.compile(COMMAND + "(?:;" + COMMAND + ")*");
    private static final int[] KEEPS = {20, 15, 10, 12};

    /** A refusal, or another code, on its way to the call that answers it. */
    private static final class Code extends RuntimeException {
        private static final long serialVersionUID = 1L;
        private final int answer;
        private final int reason;
        private final int detail;

        Code(int answer, int reason, int detail) {
            super(null, null, false, false);
            this.answer = answer;
            this.reason = reason;
            this.detail = detail;
        }
    }

    private interface Change {
        int make();
    }

    private static final class State {
        private int[] kind = new int[32];
        private int[] sacks = new int[32];
        private int[] age = new int[32];
        private boolean[] cracked = new boolean[33];
        private int weeks = 0;
        private int coins = 50;
        private int stored = 0;
        private int taken = 0;
        private int sold = 0;
        private int spoilt = 0;
        private int moved = 0;
        private int cracks = 0;
        private int mending = 0;

        State copy() {
            State copy = new State();
            copy.kind = kind.clone();
            copy.sacks = sacks.clone();
            copy.age = age.clone();
            copy.cracked = cracked.clone();
            copy.weeks = weeks;
            copy.coins = coins;
            copy.stored = stored;
            copy.taken = taken;
            copy.sold = sold;
            copy.spoilt = spoilt;
            copy.moved = moved;
            copy.cracks = cracks;
            copy.mending = mending;
            return copy;
        }
    }

    private State s = new State();
    private State snapshot = null;
    private final Deque<State> past = new ArrayDeque<>();
    private String text = "";
    private String line = "";
    private int reason = -15;
    private int detail = -15;

    // ---- helpers

    private static int size(int rung) {
        int size = 1;
        while (rung % (2 * size) == 0) {
            size *= 2;
        }
        return size;
    }

    private static boolean isOver(int rung, int bay) {
        return bay < rung && bay >= rung - size(rung);
    }

    private int rungSum(int rung) {
        int sum = 0;
        for (int bay = rung - size(rung); bay < rung; bay++) {
            sum += s.sacks[bay];
        }
        return sum;
    }

    private int total() {
        return rungSum(32);
    }

    private int totalOf(int kind) {
        int sum = 0;
        for (int bay = 0; bay < 32; bay++) {
            if (s.kind[bay] == kind) {
                sum += s.sacks[bay];
            }
        }
        return sum;
    }

    private List<Integer> filled() {
        List<Integer> bays = new ArrayList<>();
        for (int bay = 0; bay < 32; bay++) {
            if (s.sacks[bay] > 0) {
                bays.add(bay);
            }
        }
        return bays;
    }

    private static void need(boolean holds, int code) {
        if (!holds) {
            throw new Code(code, 0, 0);
        }
    }

    private static void refuseIf(boolean holds, int reason, int detail) {
        if (holds) {
            throw new Code(-14, reason, detail);
        }
    }

    private static boolean in(int number, int least, int most) {
        return least <= number && number <= most;
    }

    private int call(Change change) {
        State before = s.copy();
        try {
            int answer = change.make();
            past.addLast(before);
            if (past.size() > 8) {
                past.removeFirst();
            }
            return answer;
        } catch (Code code) {
            s = before;
            if (code.answer == -14) {
                reason = code.reason;
                detail = code.detail;
            }
            return code.answer;
        }
    }

    private int crack(int bay) {
        List<Integer> cracking = new ArrayList<>();
        for (int rung = 1; rung <= 32; rung++) {
            if (isOver(rung, bay) && !s.cracked[rung] && rungSum(rung) > 100 * size(rung)) {
                cracking.add(rung);
            }
        }
        for (int rung : cracking) {
            s.cracked[rung] = true;
        }
        s.cracks += cracking.size();
        return cracking.size();
    }

    private void lower(int bay, int sacks) {
        s.sacks[bay] -= sacks;
        if (s.sacks[bay] == 0) {
            s.age[bay] = 0;
            s.kind[bay] = 0;
        }
    }

    // ---- changes

    int store(int bay, int kind, int sacks) {
        return call(() -> doStore(bay, kind, sacks));
    }

    private int doStore(int bay, int kind, int sacks) {
        need(in(bay, 0, 31), -11);
        need(in(kind, 0, 3) && in(sacks, 1, 200), -12);
        refuseIf(s.sacks[bay] > 0 && s.kind[bay] != kind, 1, s.kind[bay]);
        refuseIf(s.sacks[bay] + sacks > 200, 2, s.sacks[bay] + sacks - 200);
        s.kind[bay] = kind;
        s.sacks[bay] += sacks;
        s.stored += sacks;
        return crack(bay);
    }

    int take(int bay, int sacks) {
        return call(() -> doTake(bay, sacks));
    }

    private int doTake(int bay, int sacks) {
        need(in(bay, 0, 31), -11);
        need(in(sacks, 1, 200), -12);
        refuseIf(s.sacks[bay] == 0, 8, bay);
        refuseIf(s.sacks[bay] < sacks, 3, s.sacks[bay]);
        lower(bay, sacks);
        s.taken += sacks;
        return s.sacks[bay];
    }

    int move(int from, int to, int sacks) {
        return call(() -> doMove(from, to, sacks));
    }

    private int doMove(int from, int to, int sacks) {
        need(in(from, 0, 31) && in(to, 0, 31), -11);
        need(in(sacks, 1, 200), -12);
        refuseIf(from == to, 4, from);
        refuseIf(s.sacks[from] == 0, 8, from);
        refuseIf(s.sacks[from] < sacks, 3, s.sacks[from]);
        refuseIf(s.sacks[to] > 0 && s.kind[to] != s.kind[from], 1, s.kind[to]);
        refuseIf(s.sacks[to] + sacks > 200, 2, s.sacks[to] + sacks - 200);
        int kind = s.kind[from];
        int age = s.sacks[to] == 0 ? s.age[from] : Math.max(s.age[from], s.age[to]);
        lower(from, sacks);
        s.kind[to] = kind;
        s.age[to] = age;
        s.sacks[to] += sacks;
        s.moved += sacks;
        return crack(to);
    }

    int order(int kind, int sacks) {
        return call(() -> doOrder(kind, sacks));
    }

    private int doOrder(int kind, int sacks) {
        need(in(kind, 0, 3) && in(sacks, 1, 999), -12);
        refuseIf(totalOf(kind) < sacks, 3, totalOf(kind));
        List<Integer> bays = filled();
        bays.removeIf(bay -> s.kind[bay] != kind);
        bays.sort(Comparator.comparingInt((Integer bay) -> -s.age[bay]).thenComparingInt(bay -> bay));
        int missing = sacks;
        for (int bay : bays) {
            int part = Math.min(missing, s.sacks[bay]);
            lower(bay, part);
            missing -= part;
        }
        s.sold += sacks;
        s.coins += price(kind, sacks);
        return price(kind, sacks);
    }

    int fix(int rung) {
        return call(() -> doFix(rung));
    }

    private int doFix(int rung) {
        need(in(rung, 1, 32), -11);
        int cost = size(rung) + 1;
        refuseIf(!s.cracked[rung], 6, rung);
        refuseIf(rungSum(rung) > 100 * size(rung), 7, rungSum(rung) - 100 * size(rung));
        refuseIf(s.coins < cost, 5, cost - s.coins);
        s.cracked[rung] = false;
        s.coins -= cost;
        s.mending += cost;
        return s.coins;
    }

    int pass(int weeks) {
        return call(() -> doPass(weeks));
    }

    private int doPass(int weeks) {
        need(in(weeks, 1, 52), -12);
        int all = 0;
        for (int week = 0; week < weeks; week++) {
            for (int bay : filled()) {
                s.age[bay]++;
                int part = s.age[bay] > KEEPS[s.kind[bay]] ? (int) Math.ceil(s.sacks[bay] / 10.0) : 0;
                lower(bay, part);
                all += part;
            }
        }
        s.weeks += weeks;
        s.spoilt += all;
        return all;
    }

    // ---- numbers

    int bayOf(int bay, int what) {
        if (!in(bay, 0, 31)) {
            return -11;
        }
        int over = 0;
        int set = 0;
        for (int rung = 1; rung <= 32; rung++) {
            if (isOver(rung, bay)) {
                over++;
                set |= s.cracked[rung] ? size(rung) : 0;
            }
        }
        boolean spoils = s.sacks[bay] > 0 && s.age[bay] >= KEEPS[s.kind[bay]];
        int[] all = {s.sacks[bay] == 0 ? -15 : s.kind[bay], s.sacks[bay], s.age[bay],
            spoils ? (s.sacks[bay] - 1) / 10 + 1 : 0, over, set};
        return in(what, 0, 5) ? all[what] : -12;
    }

    int rungOf(int rung, int what) {
        if (!in(rung, 1, 32)) {
            return -11;
        }
        int[] all = {size(rung), rungSum(rung), 100 * size(rung), s.cracked[rung] ? 1 : 0, rung - size(rung),
            below(rung).size()};
        return in(what, 0, 5) ? all[what] : -12;
    }

    /** Those that end where the next greater one around them ends: the rung is the first one that lies over all of them. */
    private static List<Integer> below(int rung) {
        List<Integer> below = new ArrayList<>();
        for (int other = rung - size(rung) + 1; other < rung; other++) {
            if (other + size(other) == rung) {
                below.add(other);
            }
        }
        return below;
    }

    int sum(int from, int to) {
        if (!in(from, 0, 31) || !in(to, 0, 31)) {
            return -11;
        }
        if (from > to) {
            return -12;
        }
        int sum = 0;
        for (int bay = from; bay <= to; bay++) {
            sum += s.sacks[bay];
        }
        return sum;
    }

    int reach(int sacks) {
        if (!in(sacks, 1, 9999)) {
            return -12;
        }
        for (int bay = 0; bay < 32; bay++) {
            if (sum(0, bay) >= sacks) {
                return bay;
            }
        }
        return -15;
    }

    int steps(int bay) {
        if (!in(bay, 0, 31)) {
            return -11;
        }
        int count = 0;
        int end = bay + 1;
        while (end > 0) {
            count += climb(end);
            end -= Integer.lowestOneBit(end);
        }
        return count;
    }

    private int climb(int rung) {
        return s.cracked[rung] ? 1 + below(rung).stream().mapToInt(this::climb).sum() : 1;
    }

    int oldest(int place) {
        List<Integer> bays = filled();
        bays.sort(Comparator.comparingInt((Integer bay) -> -s.age[bay]).thenComparingInt(bay -> -s.sacks[bay]));
        return in(place, 0, bays.size() - 1) ? bays.get(place) : -11;
    }

    int commonAge() {
        int best = -15;
        int most = 0;
        for (int age = 0; age < 52 * 512; age++) {
            int sum = 0;
            for (int bay = 0; bay < 32; bay++) {
                sum += s.age[bay] == age ? s.sacks[bay] : 0;
            }
            if (sum > most) {
                most = sum;
                best = age;
            }
            if (age > s.weeks) {
                break;
            }
        }
        return best;
    }

    int tightest() {
        int best = -15;
        for (int rung = 32; rung >= 1; rung--) {
            if (!s.cracked[rung] && (best < 0 || room(rung) <= room(best))) {
                best = rung;
            }
        }
        return best;
    }

    private int room(int rung) {
        return 100 * size(rung) - rungSum(rung);
    }

    int bestBay(int kind, int sacks) {
        if (!in(kind, 0, 3) || !in(sacks, 1, 200)) {
            return -12;
        }
        for (int round = 0; round < 2; round++) {
            for (int bay = 0; bay < 32; bay++) {
                boolean isMeant = round == 0 ? s.sacks[bay] > 0 && s.kind[bay] == kind : s.sacks[bay] == 0;
                if (isMeant && s.sacks[bay] + sacks <= 200 && bears(bay, sacks)) {
                    return bay;
                }
            }
        }
        return -15;
    }

    private boolean bears(int bay, int sacks) {
        for (int rung = 1; rung <= 32; rung++) {
            if (isOver(rung, bay) && !s.cracked[rung] && room(rung) < sacks) {
                return false;
            }
        }
        return true;
    }

    int price(int kind, int sacks) {
        if (!in(kind, 0, 3) || !in(sacks, 1, 999)) {
            return -12;
        }
        int[] each = {4, 3, 2, 3};
        int[] off = {10, 9999, 9999, 20};
        return each[kind] * sacks - sacks / off[kind];
    }

    // ---- texts, lines

    int append(int code) {
        if (!in(code, 32, 126)) {
            return -12;
        }
        if (text.length() == 60) {
            return -13;
        }
        text = text + (char) code;
        return text.length();
    }

    int run() {
        String commands = text;
        text = "";
        if (!TEXT.matcher(commands).matches()) {
            return -1000 - fault(commands);
        }
        return call(() -> carryOut(commands.split(";")));
    }

    /** The first character behind which no more characters could mend it. */
    private static int fault(String commands) {
        for (int end = 1; end <= commands.length(); end++) {
            Matcher matcher = TEXT.matcher(commands.substring(0, end));
            if (!matcher.matches() && !matcher.hitEnd()) {
                return end - 1;
            }
        }
        return commands.length();
    }

    private int carryOut(String[] commands) {
        for (int i = 0; i < commands.length; i++) {
            try {
                carryOutOne(commands[i].split("[ >]"));
            } catch (Code code) {
                throw new Code(-14, 9, i);
            }
        }
        return commands.length;
    }

    private void carryOutOne(String[] words) {
        int last = words.length > 2 ? Integer.parseInt(words[words.length - 1]) : 0;
        switch (words[0]) {
            case "store":
                doStore(Integer.parseInt(words[1]), "wrob".indexOf(words[2]), last);
                break;
            case "take":
                doTake(Integer.parseInt(words[1]), last);
                break;
            case "move":
                doMove(Integer.parseInt(words[1]), Integer.parseInt(words[2]), last);
                break;
            case "order":
                doOrder("wrob".indexOf(words[1]), last);
                break;
            case "fix":
                doFix(Integer.parseInt(words[1]));
                break;
            default:
                doPass(Integer.parseInt(words[1]));
                break;
        }
    }

    int tell(int row) {
        if (!in(row, 0, 3)) {
            return -11;
        }
        List<String> words = new ArrayList<>();
        for (int bay = 8 * row; bay < 8 * row + 8; bay++) {
            words.add(s.sacks[bay] == 0 ? "." : "" + "wrob".charAt(s.kind[bay]) + s.sacks[bay]);
        }
        line = String.join(" ", words);
        return line.length();
    }

    int tellRung(int rung) {
        if (!in(rung, 1, 32)) {
            return -11;
        }
        line = rung + ":" + (rung - size(rung)) + "-" + (rung - 1) + "=" + rungSum(rung) + (s.cracked[rung] ? "!" : "");
        return line.length();
    }

    int character(int index) {
        return in(index, 0, line.length() - 1) ? line.charAt(index) : -11;
    }

    // ---- reasons, accounts, undo and the snapshot

    int reason(boolean isDetail) {
        return isDetail ? detail : reason;
    }

    int account(int what) {
        int cracked = 0;
        for (int rung = 1; rung <= 32; rung++) {
            cracked += s.cracked[rung] ? 1 : 0;
        }
        int[] all = {s.weeks, s.coins, filled().size(), total(), totalOf(0), totalOf(1), totalOf(2), totalOf(3), s.stored,
            s.taken, s.sold, s.spoilt, s.moved, cracked, s.cracks, s.mending, text.length(), past.size()};
        return in(what, 0, 17) ? all[what] : -12;
    }

    double meanSacks() {
        return filled().isEmpty() ? 0.0 : (double) total() / (double) filled().size();
    }

    float soundShare() {
        return (float) (32 - account(13)) / 32.0f;
    }

    int undo() {
        if (past.isEmpty()) {
            return -15;
        }
        s = past.removeLast();
        return past.size();
    }

    int save() {
        snapshot = s.copy();
        return total();
    }

    int restore() {
        if (snapshot == null) {
            return -15;
        }
        s = snapshot.copy();
        past.clear();
        return total();
    }
}
