/**
 * A granary whose wall has a ladder: bays with grain, and rungs that tell sums of bays and crack under too much.
 *
 * <p>The face is checked here, with its codes and reasons; what lies in the bays and how the rungs are is held by
 * {@link Wall}, what can be undone by {@link Past}, the text by {@link CommandText}, the line by {@link Line}.
 */
public final class GranaryLadder {
    public static final int NONE = -11;
    public static final int BAD = -12;
    public static final int FULL = -13;
    public static final int REFUSED = -14;
    public static final int NOTHING = -15;

    private static final int BAYS = 32;
    private static final int RUNGS = 32;
    private static final int KINDS = 4;
    private static final int BAYS_IN_ROW = 8;
    private static final int MOST_SACKS = 200;
    private static final int MOST_ORDERED = 999;
    private static final int MOST_REACHED = 9999;
    private static final int MOST_WEEKS = 52;
    private static final int LOAD_OF_A_BAY = 100;
    private static final int FIRST_COINS = 50;
    private static final int MOST_CHANGES = 8;
    /** The rung 32 has rungs five levels deep below it. */
    private static final int DEEPEST = 5;

    private static final int FIRST_CODE = 32;
    private static final int LAST_CODE = 126;
    private static final int MOST_CHARACTERS = 60;
    /** The shortest command is as in "fix 1;", with 6 of the 60 characters. */
    private static final int MOST_COMMANDS = 10;
    private static final int CELLS_OF_A_COMMAND = 4;
    private static final int FIRST_FAULT = -1000;
    /** The longest line is a row of 8 full bays: 8 times "w200" and 7 blanks. */
    private static final int MOST_IN_LINE = 39;

    private static final int KINDS_DIFFER = 1;
    private static final int TOO_MANY_SACKS = 2;
    private static final int TOO_FEW_SACKS = 3;
    private static final int SAME_BAY = 4;
    private static final int TOO_FEW_COINS = 5;
    private static final int RUNG_IS_SOUND = 6;
    private static final int RUNG_IS_LADEN = 7;
    private static final int BAY_IS_EMPTY = 8;
    private static final int COMMAND_FAILS = 9;

    // The accounts that are counted on have the numbers that the call account knows them by.
    private static final int WEEKS = 0;
    private static final int COINS = 1;
    private static final int STORED = 8;
    private static final int TAKEN = 9;
    private static final int SOLD = 10;
    private static final int SPOILT = 11;
    private static final int MOVED = 12;
    private static final int CRACKINGS = 14;
    private static final int MENDING = 15;
    private static final int COUNTERS = 16;

    private static final int STORE = 0;
    private static final int TAKE = 1;
    private static final int MOVE = 2;
    private static final int ORDER = 3;
    private static final int FIX = 4;
    private static final int PASS = 5;
    private static final int VERBS = 6;

    private static final int[] WEEKS_KEPT = {20, 15, 10, 12};
    private static final int[] LETTERS = {'w', 'r', 'o', 'b'};

    private final Wall now = new Wall();
    /** How all was ahead of the change that is being tried. */
    private final Wall before = new Wall();
    private final Wall snapshot = new Wall();
    private boolean hasSnapshot = false;
    private final Past past = new Past();
    private final CommandText text = new CommandText();
    private final Line line = new Line();
    /** 0 as long as nothing was refused. */
    private int latestReason = 0;
    private int latestDetail = 0;
    /** The steps of each rung, written anew by each call that uses them. */
    private final int[] stepsOfRungs = new int[RUNGS + 1];

    public GranaryLadder() {
    }

    // ---- bays

    public int store(int bay, int kind, int sacks) {
        before.copyFrom(now);
        return remember(storeSacks(bay, kind, sacks));
    }

    public int take(int bay, int sacks) {
        before.copyFrom(now);
        return remember(takeSacks(bay, sacks));
    }

    public int move(int from, int to, int sacks) {
        before.copyFrom(now);
        return remember(moveSacks(from, to, sacks));
    }

    public int order(int kind, int sacks) {
        before.copyFrom(now);
        return remember(fillOrder(kind, sacks));
    }

    public int fix(int rung) {
        before.copyFrom(now);
        return remember(mend(rung));
    }

    public int pass(int weeks) {
        before.copyFrom(now);
        return remember(letWeeksPass(weeks));
    }

    public int bayOf(int bay, int what) {
        if (!isBay(bay)) {
            return NONE;
        }
        switch (what) {
            case 0:
                return now.isEmpty(bay) ? NOTHING : now.kindIn(bay);
            case 1:
                return now.sacksIn(bay);
            case 2:
                return now.ageIn(bay);
            case 3:
                return now.spoilingAt(bay, now.ageIn(bay) + 1);
            case 4:
                return now.rungsOver(bay);
            case 5:
                return now.crackedOver(bay);
            default:
                return BAD;
        }
    }

    public int rungOf(int rung, int what) {
        if (!isRung(rung)) {
            return NONE;
        }
        switch (what) {
            case 0:
                return sizeOf(rung);
            case 1:
                return now.sumOf(rung);
            case 2:
                return loadOf(rung);
            case 3:
                return now.isCracked(rung) ? 1 : 0;
            case 4:
                return firstBayOf(rung);
            case 5:
                return rungsBelow(rung);
            default:
                return BAD;
        }
    }

    // ---- sums, climbs

    public int sum(int from, int to) {
        if (!isBay(from) || !isBay(to)) {
            return NONE;
        }
        if (to < from) {
            return BAD;
        }
        return now.sumByClimbing(to) - now.sumByClimbing(from - 1);
    }

    public int sumAgain(int from, int to) {
        if (!isBay(from) || !isBay(to)) {
            return NONE;
        }
        if (to < from) {
            return BAD;
        }
        return now.sumByBays(from, to);
    }

    public int reach(int sacks) {
        if (!isWithin(sacks, 1, MOST_REACHED)) {
            return BAD;
        }
        int passed = 0;
        int missing = sacks;
        for (int size = RUNGS; size >= 1; size /= 2) {
            int rung = passed + size;
            if (rung <= RUNGS && now.sumOf(rung) < missing) {
                missing -= now.sumOf(rung);
                passed = rung;
            }
        }
        return passed < BAYS ? passed : NOTHING;
    }

    public int reachAgain(int sacks) {
        if (!isWithin(sacks, 1, MOST_REACHED)) {
            return BAD;
        }
        int found = 0;
        for (int bay = 0; bay < BAYS; bay++) {
            found += now.sacksIn(bay);
            if (found >= sacks) {
                return bay;
            }
        }
        return NOTHING;
    }

    public int steps(int bay) {
        if (!isBay(bay)) {
            return NONE;
        }
        int count = 0;
        int rung = bay + 1;
        for (int i = 0; i < RUNGS && rung > 0; i++) {
            count += stepsBelow(now, rung, 0);
            rung -= sizeOf(rung);
        }
        return count;
    }

    public int stepsAgain(int bay) {
        if (!isBay(bay)) {
            return NONE;
        }
        for (int rung = 1; rung <= bay + 1; rung++) {
            put(stepsOfRungs, rung, stepsByKnown(rung));
        }
        return knownSteps(bay + 1, 0);
    }

    // ---- orders of bays and rungs, where to store

    public int oldest(int place) {
        for (int bay = 0; bay < BAYS; bay++) {
            if (!now.isEmpty(bay) && now.placeOf(bay) == place) {
                return bay;
            }
        }
        return NONE;
    }

    public int commonAge() {
        int best = NOTHING;
        int most = 0;
        for (int bay = 0; bay < BAYS; bay++) {
            int age = now.ageIn(bay);
            int sacks = now.sacksAsOldAs(age);
            if (!now.isEmpty(bay) && (sacks > most || sacks == most && age < best)) {
                most = sacks;
                best = age;
            }
        }
        return best;
    }

    public int tightest() {
        int best = NOTHING;
        int least = 0;
        for (int rung = 1; rung <= RUNGS; rung++) {
            int room = loadOf(rung) - now.sumOf(rung);
            if (!now.isCracked(rung) && (best == NOTHING || room < least)) {
                best = rung;
                least = room;
            }
        }
        return best;
    }

    public int bestBay(int kind, int sacks) {
        if (!isKind(kind) || !isWithin(sacks, 1, MOST_SACKS)) {
            return BAD;
        }
        int firstEmpty = NOTHING;
        for (int bay = 0; bay < BAYS; bay++) {
            boolean isFit = hasRoom(bay, kind, sacks) && !now.cracksUnder(bay, sacks);
            if (isFit && !now.isEmpty(bay)) {
                return bay;
            }
            if (isFit && firstEmpty == NOTHING) {
                firstEmpty = bay;
            }
        }
        return firstEmpty;
    }

    public int price(int kind, int sacks) {
        if (!isKind(kind) || !isWithin(sacks, 1, MOST_ORDERED)) {
            return BAD;
        }
        return coinsFor(kind, sacks);
    }

    // ---- texts, lines

    public int append(int code) {
        if (!isWithin(code, FIRST_CODE, LAST_CODE)) {
            return BAD;
        }
        return text.addCode(code);
    }

    public int run() {
        boolean isRight = text.readCommands();
        text.becomeEmpty();
        if (!isRight) {
            return FIRST_FAULT - text.faultPosition();
        }
        before.copyFrom(now);
        int commands = text.commandCount();
        for (int command = 0; command < commands; command++) {
            if (carryOut(command) < 0) {
                now.copyFrom(before);
                return refuse(COMMAND_FAILS, command);
            }
        }
        return remember(commands);
    }

    public int tell(int row) {
        if (!isWithin(row, 0, BAYS / BAYS_IN_ROW - 1)) {
            return NONE;
        }
        line.becomeEmpty();
        int first = row * BAYS_IN_ROW;
        for (int bay = first; bay < first + BAYS_IN_ROW; bay++) {
            if (bay > first) {
                line.addCode(' ');
            }
            if (now.isEmpty(bay)) {
                line.addCode('.');
            } else {
                line.addCode(at(LETTERS, now.kindIn(bay)));
                line.addNumber(now.sacksIn(bay));
            }
        }
        return line.size();
    }

    public int tellRung(int rung) {
        if (!isRung(rung)) {
            return NONE;
        }
        line.becomeEmpty();
        line.addNumber(rung);
        line.addCode(':');
        line.addNumber(firstBayOf(rung));
        line.addCode('-');
        line.addNumber(rung - 1);
        line.addCode('=');
        line.addNumber(now.sumOf(rung));
        if (now.isCracked(rung)) {
            line.addCode('!');
        }
        return line.size();
    }

    public int character(int index) {
        return line.codeAt(index);
    }

    // ---- reasons, accounts, undo and the snapshot

    public int reason(boolean isDetail) {
        if (latestReason == 0) {
            return NOTHING;
        }
        return isDetail ? latestDetail : latestReason;
    }

    public int account(int what) {
        switch (what) {
            case 2:
                return now.filledBays();
            case 3:
                return now.allSacks();
            case 4:
            case 5:
            case 6:
            case 7:
                return now.sacksOfKind(what - 4);
            case 13:
                return now.crackedRungs();
            case 16:
                return text.size();
            case 17:
                return past.size();
            default:
                return isWithin(what, 0, COUNTERS - 1) ? now.counted(what) : BAD;
        }
    }

    public int isBalanced() {
        for (int rung = 1; rung <= RUNGS; rung++) {
            if (now.sumOf(rung) != now.sumByBays(firstBayOf(rung), rung - 1)) {
                return 0;
            }
        }
        int gone = now.counted(TAKEN) + now.counted(SOLD) + now.counted(SPOILT);
        return now.allSacks() == now.counted(STORED) - gone ? 1 : 0;
    }

    public double meanSacks() {
        int bays = now.filledBays();
        if (bays == 0) {
            return 0.0;
        }
        return (double) now.allSacks() / (double) bays;
    }

    public float soundShare() {
        return (float) (RUNGS - now.crackedRungs()) / (float) RUNGS;
    }

    public int undo() {
        if (past.size() == 0) {
            return NOTHING;
        }
        past.giveBack(now);
        return past.size();
    }

    public int save() {
        snapshot.copyFrom(now);
        hasSnapshot = true;
        return now.allSacks();
    }

    public int restore() {
        if (!hasSnapshot) {
            return NOTHING;
        }
        now.copyFrom(snapshot);
        past.forget();
        return now.allSacks();
    }

    // ---- changes, as calls and as commands of a text; each one answers a code and changes nothing, or succeeds

    private int storeSacks(int bay, int kind, int sacks) {
        if (!isBay(bay)) {
            return NONE;
        }
        if (!isKind(kind) || !isWithin(sacks, 1, MOST_SACKS)) {
            return BAD;
        }
        if (!hasRoom(bay, kind, sacks)) {
            return refuseRoom(bay, kind, sacks);
        }
        now.count(STORED, sacks);
        return now.bring(bay, kind, sacks, now.ageIn(bay));
    }

    private int takeSacks(int bay, int sacks) {
        if (!isBay(bay)) {
            return NONE;
        }
        if (!isWithin(sacks, 1, MOST_SACKS)) {
            return BAD;
        }
        if (!hasSacks(bay, sacks)) {
            return refuseSacks(bay);
        }
        now.remove(bay, sacks);
        now.count(TAKEN, sacks);
        return now.sacksIn(bay);
    }

    private int moveSacks(int from, int to, int sacks) {
        if (!isBay(from) || !isBay(to)) {
            return NONE;
        }
        if (!isWithin(sacks, 1, MOST_SACKS)) {
            return BAD;
        }
        if (from == to) {
            return refuse(SAME_BAY, from);
        }
        if (!hasSacks(from, sacks)) {
            return refuseSacks(from);
        }
        int kind = now.kindIn(from);
        if (!hasRoom(to, kind, sacks)) {
            return refuseRoom(to, kind, sacks);
        }
        int age = Math.max(now.ageIn(from), now.ageIn(to));
        now.remove(from, sacks);
        now.count(MOVED, sacks);
        return now.bring(to, kind, sacks, age);
    }

    private int fillOrder(int kind, int sacks) {
        if (!isKind(kind) || !isWithin(sacks, 1, MOST_ORDERED)) {
            return BAD;
        }
        int there = now.sacksOfKind(kind);
        if (there < sacks) {
            return refuse(TOO_FEW_SACKS, there);
        }
        int missing = sacks;
        for (int i = 0; i < BAYS && missing > 0; i++) {
            int bay = now.oldestOfKind(kind);
            int part = Math.min(missing, now.sacksIn(bay));
            now.remove(bay, part);
            missing -= part;
        }
        now.count(SOLD, sacks);
        now.count(COINS, coinsFor(kind, sacks));
        return coinsFor(kind, sacks);
    }

    private int mend(int rung) {
        if (!isRung(rung)) {
            return NONE;
        }
        if (!now.isCracked(rung)) {
            return refuse(RUNG_IS_SOUND, rung);
        }
        if (now.sumOf(rung) > loadOf(rung)) {
            return refuse(RUNG_IS_LADEN, now.sumOf(rung) - loadOf(rung));
        }
        int cost = sizeOf(rung) + 1;
        if (now.counted(COINS) < cost) {
            return refuse(TOO_FEW_COINS, cost - now.counted(COINS));
        }
        now.makeSound(rung);
        now.count(COINS, -cost);
        now.count(MENDING, cost);
        return now.counted(COINS);
    }

    private int letWeeksPass(int weeks) {
        if (!isWithin(weeks, 1, MOST_WEEKS)) {
            return BAD;
        }
        int spoilt = 0;
        for (int week = 0; week < weeks; week++) {
            spoilt += now.growOlder();
        }
        now.count(WEEKS, weeks);
        now.count(SPOILT, spoilt);
        return spoilt;
    }

    private int carryOut(int command) {
        int first = text.argument(command, 1);
        int second = text.argument(command, 2);
        int third = text.argument(command, 3);
        switch (text.verb(command)) {
            case STORE:
                return storeSacks(first, second, third);
            case TAKE:
                return takeSacks(first, second);
            case MOVE:
                return moveSacks(first, second, third);
            case ORDER:
                return fillOrder(first, second);
            case FIX:
                return mend(first);
            case PASS:
                return letWeeksPass(first);
            default:
                return BAD;
        }
    }

    /** Answers what the change answered; if it was none of the codes, the change can be undone from now on. */
    private int remember(int answer) {
        if (answer >= 0) {
            past.keep(before);
        }
        return answer;
    }

    // ---- reasons

    private int refuse(int reason, int detail) {
        latestReason = reason;
        latestDetail = detail;
        return REFUSED;
    }

    private boolean hasRoom(int bay, int kind, int sacks) {
        return now.isEmpty(bay) || now.kindIn(bay) == kind && now.sacksIn(bay) + sacks <= MOST_SACKS;
    }

    private int refuseRoom(int bay, int kind, int sacks) {
        if (now.kindIn(bay) != kind) {
            return refuse(KINDS_DIFFER, now.kindIn(bay));
        }
        return refuse(TOO_MANY_SACKS, now.sacksIn(bay) + sacks - MOST_SACKS);
    }

    private boolean hasSacks(int bay, int sacks) {
        return now.sacksIn(bay) >= sacks;
    }

    private int refuseSacks(int bay) {
        if (now.isEmpty(bay)) {
            return refuse(BAY_IS_EMPTY, bay);
        }
        return refuse(TOO_FEW_SACKS, now.sacksIn(bay));
    }

    // ---- steps of a climb

    /** The first way: a cracked rung asks the rungs below it, and they ask theirs. */
    private static int stepsBelow(Wall wall, int rung, int depth) {
        if (!wall.isCracked(rung) || depth > DEEPEST) {
            return 1;
        }
        int count = 1;
        int below = rung - 1;
        for (int i = 0; i < RUNGS && below > firstBayOf(rung); i++) {
            count += stepsBelow(wall, below, depth + 1);
            below -= sizeOf(below);
        }
        return count;
    }

    private int stepsByKnown(int rung) {
        return now.isCracked(rung) ? 1 + knownSteps(rung - 1, firstBayOf(rung)) : 1;
    }

    /** The known steps of the rungs from one on, each less by its size than the one ahead of it, down to an end. */
    private int knownSteps(int from, int end) {
        int count = 0;
        int rung = from;
        for (int i = 0; i < RUNGS && rung > end; i++) {
            count += at(stepsOfRungs, rung);
            rung -= sizeOf(rung);
        }
        return count;
    }

    // ---- numbers

    private static boolean isWithin(int number, int least, int most) {
        return number >= least && number <= most;
    }

    private static boolean isBay(int bay) {
        return isWithin(bay, 0, BAYS - 1);
    }

    private static boolean isRung(int rung) {
        return isWithin(rung, 1, RUNGS);
    }

    private static boolean isKind(int kind) {
        return isWithin(kind, 0, KINDS - 1);
    }

    private static int sizeOf(int rung) {
        return rung & -rung;
    }

    private static int loadOf(int rung) {
        return LOAD_OF_A_BAY * sizeOf(rung);
    }

    private static int firstBayOf(int rung) {
        return rung - sizeOf(rung);
    }

    private static int rungsBelow(int rung) {
        int count = 0;
        int below = rung - 1;
        for (int i = 0; i < RUNGS && below > firstBayOf(rung); i++) {
            count++;
            below -= sizeOf(below);
        }
        return count;
    }

    private static int coinsFor(int kind, int sacks) {
        switch (kind) {
            case 0:
                return 4 * sacks - sacks / 10;
            case 1:
                return 3 * sacks;
            case 2:
                return 2 * sacks;
            default:
                return 3 * sacks - sacks / 20;
        }
    }

    // ---- rows of numbers: they are read and written here alone, where the index is looked at

    private static int at(int[] row, int index) {
        return index >= 0 && index < row.length ? row[index] : 0;
    }

    private static void put(int[] row, int index, int value) {
        if (index >= 0 && index < row.length) {
            row[index] = value;
        }
    }

    private static void copyRow(int[] from, int[] to) {
        for (int i = 0; i < from.length && i < to.length; i++) {
            to[i] = from[i];
        }
    }

    /** All that changes can change: the bays, the rungs, and what is counted on. */
    private static final class Wall {
        private final int[] kinds = new int[BAYS];
        private final int[] sacks = new int[BAYS];
        private final int[] ages = new int[BAYS];
        /** What each rung tells; there is no rung 0. */
        private final int[] sums = new int[RUNGS + 1];
        /** 1 for each rung that is cracked. */
        private final int[] cracks = new int[RUNGS + 1];
        private final int[] counters = new int[COUNTERS];

        Wall() {
            if (COINS < counters.length) {
                counters[COINS] = FIRST_COINS;
            }
        }

        void copyFrom(Wall other) {
            copyRow(other.kinds, kinds);
            copyRow(other.sacks, sacks);
            copyRow(other.ages, ages);
            copyRow(other.sums, sums);
            copyRow(other.cracks, cracks);
            copyRow(other.counters, counters);
        }

        boolean isEmpty(int bay) {
            return at(sacks, bay) == 0;
        }

        int kindIn(int bay) {
            return at(kinds, bay);
        }

        int sacksIn(int bay) {
            return at(sacks, bay);
        }

        int ageIn(int bay) {
            return at(ages, bay);
        }

        int sumOf(int rung) {
            return at(sums, rung);
        }

        boolean isCracked(int rung) {
            return at(cracks, rung) == 1;
        }

        void makeSound(int rung) {
            put(cracks, rung, 0);
        }

        int counted(int counter) {
            return at(counters, counter);
        }

        void count(int counter, int more) {
            put(counters, counter, at(counters, counter) + more);
        }

        /** Answers how many rungs crack. */
        int bring(int bay, int kind, int more, int age) {
            put(kinds, bay, kind);
            put(ages, bay, age);
            changeSacks(bay, more);
            return crackOver(bay);
        }

        void remove(int bay, int fewer) {
            changeSacks(bay, -fewer);
            if (isEmpty(bay)) {
                put(kinds, bay, 0);
                put(ages, bay, 0);
            }
        }

        private void changeSacks(int bay, int difference) {
            put(sacks, bay, at(sacks, bay) + difference);
            int rung = bay + 1;
            for (int i = 0; i < RUNGS && rung <= RUNGS; i++) {
                put(sums, rung, at(sums, rung) + difference);
                rung += sizeOf(rung);
            }
        }

        private int crackOver(int bay) {
            int count = 0;
            int rung = bay + 1;
            for (int i = 0; i < RUNGS && rung <= RUNGS; i++) {
                if (!isCracked(rung) && sumOf(rung) > loadOf(rung)) {
                    put(cracks, rung, 1);
                    count++;
                }
                rung += sizeOf(rung);
            }
            count(CRACKINGS, count);
            return count;
        }

        boolean cracksUnder(int bay, int more) {
            int rung = bay + 1;
            for (int i = 0; i < RUNGS && rung <= RUNGS; i++) {
                if (!isCracked(rung) && sumOf(rung) + more > loadOf(rung)) {
                    return true;
                }
                rung += sizeOf(rung);
            }
            return false;
        }

        int rungsOver(int bay) {
            int count = 0;
            int rung = bay + 1;
            for (int i = 0; i < RUNGS && rung <= RUNGS; i++) {
                count++;
                rung += sizeOf(rung);
            }
            return count;
        }

        /** The rungs over one bay have different sizes, each of them a bit of its own. */
        int crackedOver(int bay) {
            int set = 0;
            int rung = bay + 1;
            for (int i = 0; i < RUNGS && rung <= RUNGS; i++) {
                if (isCracked(rung)) {
                    set += sizeOf(rung);
                }
                rung += sizeOf(rung);
            }
            return set;
        }

        int sumByClimbing(int bay) {
            int sum = 0;
            int rung = bay + 1;
            for (int i = 0; i < RUNGS && rung > 0; i++) {
                sum += sumOf(rung);
                rung -= sizeOf(rung);
            }
            return sum;
        }

        int sumByBays(int from, int to) {
            int sum = 0;
            for (int bay = 0; bay < BAYS; bay++) {
                if (bay >= from && bay <= to) {
                    sum += sacksIn(bay);
                }
            }
            return sum;
        }

        int allSacks() {
            return sumByBays(0, BAYS - 1);
        }

        int sacksOfKind(int kind) {
            int sum = 0;
            for (int bay = 0; bay < BAYS; bay++) {
                if (kindIn(bay) == kind) {
                    sum += sacksIn(bay);
                }
            }
            return sum;
        }

        int sacksAsOldAs(int age) {
            int sum = 0;
            for (int bay = 0; bay < BAYS; bay++) {
                if (ageIn(bay) == age) {
                    sum += sacksIn(bay);
                }
            }
            return sum;
        }

        int filledBays() {
            int count = 0;
            for (int bay = 0; bay < BAYS; bay++) {
                if (!isEmpty(bay)) {
                    count++;
                }
            }
            return count;
        }

        int crackedRungs() {
            int count = 0;
            for (int rung = 1; rung <= RUNGS; rung++) {
                if (isCracked(rung)) {
                    count++;
                }
            }
            return count;
        }

        /** The place of a bay with grain among those, by how old it is. */
        int placeOf(int bay) {
            int place = 0;
            for (int other = 0; other < BAYS; other++) {
                if (!isEmpty(other) && isAhead(other, bay)) {
                    place++;
                }
            }
            return place;
        }

        private boolean isAhead(int bay, int other) {
            if (ageIn(bay) != ageIn(other)) {
                return ageIn(bay) > ageIn(other);
            }
            if (sacksIn(bay) != sacksIn(other)) {
                return sacksIn(bay) > sacksIn(other);
            }
            return bay < other;
        }

        /** Of like old grain the lowest bay; NOTHING without grain of the kind. */
        int oldestOfKind(int kind) {
            int best = NOTHING;
            for (int bay = 0; bay < BAYS; bay++) {
                if (!isEmpty(bay) && kindIn(bay) == kind && (best == NOTHING || ageIn(bay) > ageIn(best))) {
                    best = bay;
                }
            }
            return best;
        }

        /** How many sacks of a bay spoil in a week in which they become so old. */
        int spoilingAt(int bay, int age) {
            return age > at(WEEKS_KEPT, kindIn(bay)) ? (sacksIn(bay) + 9) / 10 : 0;
        }

        /** Lets one week go by and answers how many sacks spoil. */
        int growOlder() {
            int spoilt = 0;
            for (int bay = 0; bay < BAYS; bay++) {
                if (!isEmpty(bay)) {
                    put(ages, bay, ageIn(bay) + 1);
                    int part = spoilingAt(bay, ageIn(bay));
                    remove(bay, part);
                    spoilt += part;
                }
            }
            return spoilt;
        }
    }

    /** How all was ahead of the latest changes, in a ring of rows that are used again. */
    private static final class Past {
        private final Wall[] walls = new Wall[MOST_CHANGES];
        private int next = 0;
        private int kept = 0;

        Past() {
            for (int i = 0; i < walls.length; i++) {
                walls[i] = new Wall();
            }
        }

        int size() {
            return kept;
        }

        void keep(Wall wall) {
            if (next >= 0 && next < walls.length && walls[next] != null) {
                walls[next].copyFrom(wall);
            }
            next = (next + 1) % MOST_CHANGES;
            kept = Math.min(kept + 1, MOST_CHANGES);
        }

        void giveBack(Wall wall) {
            next = (next + MOST_CHANGES - 1) % MOST_CHANGES;
            kept = Math.max(kept - 1, 0);
            if (next >= 0 && next < walls.length && walls[next] != null) {
                wall.copyFrom(walls[next]);
            }
        }

        void forget() {
            kept = 0;
        }
    }

    /** The text, and the commands that were read in it. */
    private static final class CommandText {
        private final int[] codes = new int[MOST_CHARACTERS];
        private int length = 0;
        /** Each command has its verb, then its numbers. */
        private final int[] cells = new int[MOST_COMMANDS * CELLS_OF_A_COMMAND];
        private int commands = 0;
        private int nextCell = 0;
        /** Where reading stands: if it failed, at the fault position. */
        private int place = 0;

        int size() {
            return length;
        }

        int addCode(int code) {
            if (length >= MOST_CHARACTERS) {
                return FULL;
            }
            put(codes, length, code);
            length++;
            return length;
        }

        void becomeEmpty() {
            length = 0;
        }

        int faultPosition() {
            return place;
        }

        int commandCount() {
            return commands;
        }

        int verb(int command) {
            return at(cells, command * CELLS_OF_A_COMMAND);
        }

        int argument(int command, int number) {
            return at(cells, command * CELLS_OF_A_COMMAND + number);
        }

        /** Answers whether the text is right. */
        boolean readCommands() {
            place = 0;
            commands = 0;
            for (int i = 0; i <= MOST_COMMANDS; i++) {
                if (!readCommand()) {
                    return false;
                }
                if (place == length) {
                    return true;
                }
                if (!readCode(';')) {
                    return false;
                }
            }
            return false;
        }

        private boolean readCommand() {
            for (int verb = 0; verb < VERBS; verb++) {
                String pattern = patternOf(verb);
                if (!pattern.isEmpty() && nextCode() == pattern.charAt(0)) {
                    nextCell = commands * CELLS_OF_A_COMMAND;
                    addCell(verb);
                    commands++;
                    return readAlong(pattern);
                }
            }
            return false;
        }

        /** In a pattern 2 and 3 stand for a number of at most so many digits, ? for a kind, the others for themselves. */
        private static String patternOf(int verb) {
            switch (verb) {
                case STORE:
                    return "store 2 ? 3";
                case TAKE:
                    return "take 2 3";
                case MOVE:
                    return "move 2>2 3";
                case ORDER:
                    return "order ? 3";
                case FIX:
                    return "fix 2";
                case PASS:
                    return "pass 2";
                default:
                    return "";
            }
        }

        private boolean readAlong(String pattern) {
            boolean isRight = true;
            for (int i = 0; i < pattern.length() && isRight; i++) {
                char part = pattern.charAt(i);
                if (part == '2') {
                    isRight = readNumber(2);
                } else if (part == '3') {
                    isRight = readNumber(3);
                } else if (part == '?') {
                    isRight = readKind();
                } else {
                    isRight = readCode(part);
                }
            }
            return isRight;
        }

        private boolean readNumber(int mostDigits) {
            int number = 0;
            int digits = 0;
            while (digits < mostDigits && isWithin(nextCode(), '0', '9')) {
                number = 10 * number + nextCode() - '0';
                digits++;
                place++;
            }
            addCell(number);
            return digits > 0;
        }

        private boolean readKind() {
            for (int kind = 0; kind < KINDS; kind++) {
                if (nextCode() == at(LETTERS, kind)) {
                    addCell(kind);
                    place++;
                    return true;
                }
            }
            return false;
        }

        private boolean readCode(int code) {
            if (nextCode() != code) {
                return false;
            }
            place++;
            return true;
        }

        private int nextCode() {
            return place < length ? at(codes, place) : NONE;
        }

        private void addCell(int value) {
            put(cells, nextCell, value);
            nextCell++;
        }
    }

    /** The line that was written last. */
    private static final class Line {
        private final int[] codes = new int[MOST_IN_LINE];
        private int length = 0;

        int size() {
            return length;
        }

        void becomeEmpty() {
            length = 0;
        }

        void addCode(int code) {
            if (length < MOST_IN_LINE) {
                put(codes, length, code);
                length++;
            }
        }

        /** A number of the granary, which has at most 4 digits: all bays hold 6400 sacks at most. */
        void addNumber(int number) {
            for (int unit = 1000; unit >= 1; unit /= 10) {
                if (number >= unit || unit == 1) {
                    addCode('0' + number / unit % 10);
                }
            }
        }

        int codeAt(int index) {
            return isWithin(index, 0, length - 1) ? at(codes, index) : NONE;
        }
    }
}
