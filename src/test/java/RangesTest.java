/**
 * Each number that a call gets: the last one that is still right and the first one that is wrong, on either side; and the
 * code that is returned where several apply.
 */
public final class RangesTest {
    private static final Check CHECK = new Check("ranges");
    private static final int NONE = -11;
    private static final int BAD = -12;
    private static final int FULL = -13;
    private static final int REFUSED = -14;
    private static final int NOTHING = -15;

    /** A call on a granary of its own, by the number that is looked at. */
    private interface Call {
        int with(int number);
    }

    public static void main(String[] args) {
        store();
        take();
        move();
        order();
        fix();
        pass();
        bayOf();
        rungOf();
        sum();
        reach();
        steps();
        oldest();
        bestBay();
        price();
        append();
        tell();
        tellRung();
        character();
        account();
        codesOfChanges();
        codesOfMoves();
        codesOfNumbers();
        codesOfTexts();
        CHECK.end();
    }

    /** The least and the most number answer what is due; those beyond them, and those far away, answer the code. */
    private static void edges(String call, int least, int dueAtLeast, int most, int dueAtMost, int code, Call made) {
        CHECK.due(call + ", the least number " + least, dueAtLeast, made.with(least));
        CHECK.due(call + ", the most number " + most, dueAtMost, made.with(most));
        int[] wrong = {Integer.MIN_VALUE, Integer.MIN_VALUE + 1, least - 1, most + 1, Integer.MAX_VALUE};
        for (int number : wrong) {
            CHECK.due(call + ", the wrong number " + number, code, made.with(number));
        }
    }

    private static GranaryLadder fresh() {
        return new GranaryLadder();
    }

    private static void store() {
        edges("store: bay", 0, 0, 31, 0, NONE, bay -> fresh().store(bay, 0, 1));
        edges("store: kind", 0, 0, 3, 0, BAD, kind -> fresh().store(0, kind, 1));
        edges("store: sacks", 1, 0, 200, 1, BAD, sacks -> fresh().store(0, 0, sacks));
    }

    private static void take() {
        edges("take: bay", 0, 199, 31, 199, NONE, bay -> Granaries.full().take(bay, 1));
        edges("take: sacks", 1, 199, 200, 0, BAD, sacks -> Granaries.full().take(0, sacks));
    }

    private static GranaryLadder corners() {
        GranaryLadder x = fresh();
        x.store(0, 0, 9);
        x.store(31, 0, 9);
        return x;
    }

    private static void move() {
        edges("move: from", 0, 0, 31, 0, NONE, bay -> corners().move(bay, 15, 1));
        edges("move: to", 0, 0, 31, 0, NONE, bay -> Granaries.with(15, 0, 9, 0).move(15, bay, 1));
        edges("move: sacks", 1, 0, 200, 1, BAD, sacks -> Granaries.with(15, 0, 200, 0).move(15, 0, sacks));
    }

    private static GranaryLadder withAllKinds() {
        GranaryLadder x = fresh();
        for (int kind = 0; kind < 4; kind++) {
            x.store(kind, kind, 1);
        }
        return x;
    }

    private static void order() {
        edges("order: kind", 0, 4, 3, 3, BAD, kind -> withAllKinds().order(kind, 1));
        edges("order: sacks", 1, 4, 999, 3897, BAD, sacks -> Granaries.full().order(0, sacks));
    }

    private static void fix() {
        edges("fix: rung", 1, 48, 32, 17, NONE, rung -> Granaries.crackedAndEmpty().fix(rung));
    }

    private static GranaryLadder afterWeeks(int weeks) {
        GranaryLadder x = fresh();
        x.pass(weeks);
        return x;
    }

    private static void pass() {
        edges("pass: weeks", 1, 0, 52, 0, BAD, weeks -> fresh().pass(weeks));
        edges("pass: weeks of barley that spoils", 1, 1, 52, 20, BAD, weeks -> agedBarley().pass(weeks));
        CHECK.due("1 week goes by", 1, afterWeeks(1).account(0));
        CHECK.due("52 weeks go by", 52, afterWeeks(52).account(0));
        CHECK.due("none of 0 weeks goes by", 0, afterWeeks(0).account(0));
        CHECK.due("none of 53 weeks goes by", 0, afterWeeks(53).account(0));
    }

    /** 10 in a bay and 10 in another one that is younger: 1 spoils at once, and all in a year. */
    private static GranaryLadder agedBarley() {
        GranaryLadder x = Granaries.with(3, 3, 10, 12);
        x.store(4, 3, 10);
        return x;
    }

    private static void bayOf() {
        edges("bayOf: bay", 0, 6, 31, 1, NONE, bay -> fresh().bayOf(bay, 4));
        edges("bayOf: what", 0, 0, 5, 63, BAD, what -> Granaries.full().bayOf(0, what));
    }

    private static void rungOf() {
        edges("rungOf: rung", 1, 1, 32, 32, NONE, rung -> fresh().rungOf(rung, 0));
        edges("rungOf: what", 0, 32, 5, 5, BAD, what -> fresh().rungOf(32, what));
    }

    private static void sum() {
        edges("sum: from", 0, 3200, 31, 100, NONE, bay -> Granaries.atItsLoad().sum(bay, 31));
        edges("sum: to", 0, 100, 31, 3200, NONE, bay -> Granaries.atItsLoad().sum(0, bay));
        edges("sumAgain: from", 0, 3200, 31, 100, NONE, bay -> Granaries.atItsLoad().sumAgain(bay, 31));
        edges("sumAgain: to", 0, 100, 31, 3200, NONE, bay -> Granaries.atItsLoad().sumAgain(0, bay));
        GranaryLadder x = Granaries.atItsLoad();
        for (int bay = 0; bay < 32; bay++) {
            CHECK.due("the last one is the first one: " + bay, 100, x.sum(bay, bay));
            CHECK.due("the last one is the first one, again: " + bay, 100, x.sumAgain(bay, bay));
            CHECK.due("the last one is ahead by one: " + bay, bay == 0 ? NONE : BAD, x.sum(bay, bay - 1));
            CHECK.due("the last one is ahead by one, again: " + bay, bay == 0 ? NONE : BAD, x.sumAgain(bay, bay - 1));
        }
        CHECK.due("the last one is ahead by most", BAD, x.sum(31, 0));
        CHECK.due("the last one is ahead by most, again", BAD, x.sumAgain(31, 0));
    }

    private static void reach() {
        edges("reach: sacks", 1, 0, 9999, NOTHING, BAD, sacks -> Granaries.full().reach(sacks));
        edges("reachAgain: sacks", 1, 0, 9999, NOTHING, BAD, sacks -> Granaries.full().reachAgain(sacks));
        for (int sacks : new int[] {1, 57, 199, 200}) {
            GranaryLadder x = Granaries.with(31, 0, sacks, 0);
            CHECK.due("all sacks are just as many", 31, x.reach(sacks));
            CHECK.due("all sacks are just as many, again", 31, x.reachAgain(sacks));
            CHECK.due("all sacks are fewer by one", NOTHING, x.reach(sacks + 1));
            CHECK.due("all sacks are fewer by one, again", NOTHING, x.reachAgain(sacks + 1));
        }
    }

    private static void steps() {
        edges("steps: bay", 0, 1, 31, 32, NONE, bay -> Granaries.full().steps(bay));
        edges("stepsAgain: bay", 0, 1, 31, 32, NONE, bay -> Granaries.full().stepsAgain(bay));
    }

    private static void oldest() {
        edges("oldest: place among 32", 0, 0, 31, 31, NONE, place -> Granaries.full().oldest(place));
        edges("oldest: place among 2", 0, 0, 1, 31, NONE, place -> corners().oldest(place));
        edges("oldest: place of one alone", 0, 7, 0, 7, NONE, place -> Granaries.with(7, 1, 1, 0).oldest(place));
        CHECK.due("oldest: there is no place 0 without grain", NONE, fresh().oldest(0));
        CHECK.due("oldest: nor a place -1", NONE, fresh().oldest(-1));
    }

    private static void bestBay() {
        edges("bestBay: kind", 0, 0, 3, 0, BAD, kind -> fresh().bestBay(kind, 1));
        edges("bestBay: sacks", 1, 0, 200, 1, BAD, sacks -> fresh().bestBay(0, sacks));
    }

    private static void price() {
        edges("price: kind", 0, 4, 3, 3, BAD, kind -> fresh().price(kind, 1));
        edges("price: sacks of wheat", 1, 4, 999, 3897, BAD, sacks -> fresh().price(0, sacks));
        edges("price: sacks of rye", 1, 3, 999, 2997, BAD, sacks -> fresh().price(1, sacks));
        edges("price: sacks of oats", 1, 2, 999, 1998, BAD, sacks -> fresh().price(2, sacks));
        edges("price: sacks of barley", 1, 3, 999, 2948, BAD, sacks -> fresh().price(3, sacks));
    }

    private static void append() {
        edges("append: code", 32, 1, 126, 1, BAD, code -> fresh().append(code));
        GranaryLadder x = fresh();
        for (int length = 1; length <= 60; length++) {
            CHECK.due("append the character " + length, length, x.append('p'));
        }
        CHECK.due("the text has 60 characters", FULL, x.append('p'));
        CHECK.due("it is as long as it was", 60, x.account(16));
    }

    private static void tell() {
        edges("tell: row", 0, 15, 3, 15, NONE, row -> fresh().tell(row));
    }

    private static void tellRung() {
        edges("tellRung: rung", 1, 7, 32, 9, NONE, rung -> fresh().tellRung(rung));
    }

    private static GranaryLadder withRow() {
        GranaryLadder x = corners();
        x.tell(0);
        return x;
    }

    private static GranaryLadder withLongestRow() {
        GranaryLadder x = Granaries.full();
        x.tell(3);
        return x;
    }

    private static void character() {
        edges("character: index in 'w9 . . . . . . .'", 0, 'w', 15, '.', NONE, index -> withRow().character(index));
        edges("character: index in the longest line", 0, 'w', 38, '0', NONE, index -> withLongestRow().character(index));
        CHECK.due("character: the line is empty at first", NONE, fresh().character(0));
    }

    private static void account() {
        edges("account: what", 0, 5, 17, 1, BAD, what -> afterWeeks(5).account(what));
    }

    private static void codesOfChanges() {
        GranaryLadder x = Granaries.with(31, 2, 200, 0);
        CHECK.due("store: no bay, bad kind", NONE, x.store(32, 4, 1));
        CHECK.due("store: no bay, bad sacks", NONE, x.store(-1, 0, 0));
        CHECK.due("store: bad kind, for the reason 1 too", BAD, x.store(31, 4, 1));
        CHECK.due("store: bad sacks, for the reason 1 too", BAD, x.store(31, 1, 201));
        CHECK.due("store: bad sacks, for the reason 2 too", BAD, x.store(31, 2, 201));
        CHECK.due("take: no bay, bad sacks", NONE, x.take(32, 201));
        CHECK.due("take: bad sacks, for the reason 8 too", BAD, x.take(30, 201));
        CHECK.due("take: bad sacks, for the reason 3 too", BAD, x.take(31, 201));
        CHECK.due("order: bad sacks, for the reason 3 too", BAD, x.order(0, 1000));
        CHECK.due("order: bad kind, which has no sacks", BAD, x.order(4, 1));
        CHECK.due("fix: no rung, none that is cracked", NONE, x.fix(33));
        CHECK.due("fix: no rung 0", NONE, x.fix(0));
        CHECK.due("nothing was refused by all that", NOTHING, x.reason(false));
        CHECK.due("nothing was refused by all that", NOTHING, x.reason(true));
    }

    private static void codesOfMoves() {
        GranaryLadder x = Granaries.with(31, 2, 200, 0);
        x.store(30, 1, 200);
        CHECK.due("move: no first bay, bad sacks", NONE, x.move(32, 0, 0));
        CHECK.due("move: no other bay, bad sacks", NONE, x.move(31, -1, 201));
        CHECK.due("move: neither bay, and both are one", NONE, x.move(32, 32, 1));
        CHECK.due("move: no other bay, the first one empty", NONE, x.move(0, 32, 1));
        CHECK.due("move: bad sacks, for the reason 4 too", BAD, x.move(31, 31, 0));
        CHECK.due("move: bad sacks, for the reason 8 too", BAD, x.move(0, 31, 201));
        CHECK.due("move: bad sacks, for the reason 3 too", BAD, x.move(31, 0, 201));
        CHECK.due("move: bad sacks, for the reason 1 too", BAD, x.move(31, 30, 0));
        CHECK.due("nothing was refused by all that", NOTHING, x.reason(false));
    }

    private static void codesOfNumbers() {
        GranaryLadder x = Granaries.full();
        CHECK.due("bayOf: no bay, bad what", NONE, x.bayOf(32, 6));
        CHECK.due("rungOf: no rung, bad what", NONE, x.rungOf(0, -1));
        CHECK.due("sum: no first bay, behind the last one", NONE, x.sum(32, 0));
        CHECK.due("sum: no last bay, ahead of the first one", NONE, x.sum(0, -1));
        CHECK.due("sum: neither bay, the last one ahead", NONE, x.sum(32, -1));
        CHECK.due("sumAgain: no first bay, behind the last one", NONE, x.sumAgain(32, 0));
        CHECK.due("sumAgain: no last bay, ahead of the first one", NONE, x.sumAgain(0, -1));
        CHECK.due("sumAgain: neither bay, the last one ahead", NONE, x.sumAgain(32, -1));
        CHECK.due("reach: more than 9999 and than all", BAD, x.reach(10000));
        CHECK.due("reachAgain: more than 9999 and than all", BAD, x.reachAgain(10000));
        CHECK.due("reach: 0 of none", BAD, fresh().reach(0));
        CHECK.due("reachAgain: 0 of none", BAD, fresh().reachAgain(0));
        CHECK.due("bestBay: bad sacks, and there is none", BAD, x.bestBay(0, 201));
        CHECK.due("bestBay: bad kind, and there is none", BAD, x.bestBay(4, 1));
        CHECK.due("bestBay: there is none", NOTHING, x.bestBay(0, 1));
        CHECK.due("price: neither number is right", BAD, x.price(4, 1000));
    }

    private static void codesOfTexts() {
        GranaryLadder x = fresh();
        Check.type(x, "pass 1;pass 1;pass 1;pass 1;pass 1;pass 1;pass 1;pass 1;pass");
        CHECK.due("append: bad code, the text is full", BAD, x.append(31));
        CHECK.due("append: bad code, the text is full", BAD, x.append(127));
        CHECK.due("append: the text is full", FULL, x.append(32));
        CHECK.due("run: the text ends too early", -1060, x.run());
        CHECK.due("run: wrong behind a command that can't be carried out", -1006, Check.runText(x, "fix 1;,"));
        CHECK.due("nothing was refused by that", NOTHING, x.reason(false));
        CHECK.due("run: right, but it can't be carried out", REFUSED, Check.runText(x, "fix 1;fix 1"));
    }
}
