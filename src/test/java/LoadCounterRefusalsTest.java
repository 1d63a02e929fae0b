/**
 * Each call that is refused, with an answer or an exception, on a busy office: what it answers, and
 * that all is as it was behind it, what can be undone and gone back to as well.
 */
public final class LoadCounterRefusalsTest {
    private static final int MIN = Sentences.MIN;
    private static final int MAX = Sentences.MAX;
    private static final long THROWN = Sentences.THROWN;
    private static final int[] NO_PLACES = {-1, 12, MIN, MAX};
    private static final int[] NO_DETAILS = {-1, 12, MIN, MAX};
    /** No such PLACES, a PLUG, nothing. */
    private static final int[] NO_GAUGES = {-1, 12, MIN, MAX, 5, 6, 10};
    private static final int SUM = 4;

    private static final Sentences t = new Sentences();
    private static final String[] STATES = statesAfter(o -> 0);
    private static final String[] WITHOUT_TAPE = statesAfter(o -> Sentences.bit(o.end(0)));

    private static LoadCounter after(Sentences.Call call) {
        LoadCounter o = Sentences.busy();
        Sentences.answer(call, o);
        return o;
    }

    /** As it is behind the call, when the latest ACT is undone then, when the IMAGE is gone back to. */
    private static String[] statesAfter(Sentences.Call call) {
        LoadCounter undone = after(call);
        undone.undo();
        LoadCounter again = after(call);
        again.again();
        return new String[] {Sentences.stateOf(after(call)), Sentences.stateOf(undone), Sentences.stateOf(again)};
    }

    private static void refused(String what, long due, String[] states, Sentences.Call call) {
        LoadCounter o = Sentences.busy();
        t.is(what, Sentences.answer(call, o), due);
        t.is(what + ": an ACT can be undone still", o.count(3), 1);
        String[] got = statesAfter(call);
        t.same(what + ": all is as it was", got[0], states[0]);
        t.same(what + ": the ACT ahead is undone", got[1], states[1]);
        t.same(what + ": the IMAGE is as it was", got[2], states[2]);
    }

    private static void refused(String what, long due, Sentences.Call call) {
        refused(what, due, STATES, call);
    }

    private static void refusedWithoutTape(String what, long due, Sentences.Call call) {
        refused(what, due, WITHOUT_TAPE, call);
    }

    private static void theOfficeIsBusy() {
        t.of("test", "the busy office shows what it is to show");
        t.is("what is undone is seen", !STATES[1].equals(STATES[0]));
        t.is("what is gone back to is seen", !STATES[2].equals(STATES[0]) && !STATES[2].equals(STATES[1]));
        Sentences.Call[] seen = {
            o -> o.feed(0, 0, 0, 0, 0), o -> Sentences.bit(o.end(6)),
            o -> Sentences.bit(o.put(1, 1, 4, 0)), o -> Sentences.bit(o.put(3, 3, 2, 5)),
            o -> Sentences.bit(o.put(4, 4, 0, 1)), o -> Sentences.bit(o.plug(6)),
            o -> Sentences.bit(o.take(5)), o -> o.read(0, 0), o -> o.tear(0, 0, 0),
            o -> Sentences.bit(o.fill(0, 4, 0)), o -> Sentences.bit(o.detail(0, Sentences.NONE)),
            o -> o.bound(1, 1, 1), o -> o.mean(1, 1, 10), o -> Sentences.bit(o.limit(0, 0)),
            o -> Sentences.bit(o.limit(0, 4000000)), o -> Sentences.bit(o.worst(0, 0)),
            o -> Sentences.bit(o.worst(0, 4000000)), o -> Sentences.bit(o.crack(0, 0, 6)),
            o -> Sentences.bit(o.crack(0, 5, 5)), o -> Sentences.bit(o.crack(0, 5, 4000000)),
            o -> o.step(1, 0, 0), o -> o.mend(0), o -> Sentences.bit(o.undo()),
            o -> Sentences.bit(o.again())};
        for (int i = 0; i < seen.length; i++) {
            t.is("change " + i + " is seen", !Sentences.stateOf(after(seen[i])).equals(STATES[0]));
        }
    }

    private static void tape() {
        t.of("Promise 2", "NONE, and none come, if it would have more than 400");
        LoadCounter o = new LoadCounter();
        Sentences.tape(o, new int[381]);
        t.is("feed at 381", o.feed(1, 2, 3, 4, 5), -1);
        t.is("none come", o.count(0), 381);
        o.put(0, 0, 0, 0);
        o.read(0, 0);
        t.is("the last one it had", o.span(0, 380), 0);
        t.of("Promise 3", "false, if it has not so many, or n is below 0");
        for (int n : new int[] {-1, MIN, 8, MAX}) {
            refused("end(" + n + ")", 0, x -> Sentences.bit(x.end(n)));
        }
    }

    private static void put() {
        t.of("Promise 4", "false, if there is no such PLACE");
        for (int p : NO_PLACES) {
            refused("put(" + p + ", ..)", 0, o -> Sentences.bit(o.put(p, 0, 0, 0)));
        }
        t.of("Promise 4", "false, if there is no such .. kind");
        for (int kind : new int[] {-1, 5, MIN, MAX}) {
            refused("kind " + kind, 0, o -> Sentences.bit(o.put(0, kind, 1, 1)));
        }
        t.of("Promise 4", "of Step with SIZE a, if a .. is not as told");
        for (int size : new int[] {0, -1, 100001, MIN, MAX}) {
            refused("SIZE " + size, 0, o -> Sentences.bit(o.put(1, 1, size, 0)));
        }
        t.of("Promise 4", "of Dumb with SPANS from a up to b (0 <= a <= b <= 399)");
        int[][] dumbs = {{-1, 0}, {-1, -1}, {1, 0}, {399, 398}, {0, 400}, {400, 400}, {MIN, 0}, {0, MAX},
            {MAX, MIN}, {0, MIN}, {MAX, MAX}};
        for (int[] x : dumbs) {
            refused("Dumb " + x[0] + " " + x[1], 0, o -> Sentences.bit(o.put(3, 3, x[0], x[1])));
        }
        t.of("Promise 4", "of Sum of PLACES a and b");
        for (int p : NO_PLACES) {
            refused("Sum of " + p + " and 0", 0, o -> Sentences.bit(o.put(4, 4, p, 0)));
            refused("Sum of 0 and " + p, 0, o -> Sentences.bit(o.put(4, 4, 0, p)));
        }
    }

    private static void plugAndTake() {
        t.of("Promise 5", "false without such a PLACE");
        for (int p : NO_PLACES) {
            refused("plug(" + p + ")", 0, o -> Sentences.bit(o.plug(p)));
        }
        t.of("Promise 6", "false, if .. there is none such");
        for (int p : NO_PLACES) {
            refused("take(" + p + ")", 0, o -> Sentences.bit(o.take(p)));
        }
        t.of("Promise 6", "false, if it had nothing");
        refused("take(6)", 0, o -> Sentences.bit(o.take(6)));
        refused("take(10)", 0, o -> Sentences.bit(o.take(10)));
        t.of("Promise 7", "-2 no such PLACE");
        for (int p : NO_PLACES) {
            refused("kind(" + p + ")", -2, o -> o.kind(p));
        }
    }

    private static void read() {
        t.of("Promise 8", "(empty then, also if it is refused) .. -1: there is none");
        for (int p : NO_GAUGES) {
            refusedWithoutTape("read(" + p + ", 0)", -1, o -> o.read(p, 0));
        }
        t.of("Promise 8", "-1: .. or a Sum");
        refusedWithoutTape("read of a Sum", -1, o -> o.read(SUM, 0));
        t.of("Promise 8", "-2: no such WIDTH");
        for (int width : new int[] {-1, 6, MIN, MAX}) {
            refusedWithoutTape("WIDTH " + width, -2, o -> o.read(0, width));
        }
        t.of("Promise 8", "-3: it would have more than 400 (nothing is fed then)");
        refusedWithoutTape("391 more behind 10", -3, o -> {
            Sentences.tape(o, new int[391]);
            return o.read(0, 0);
        });
        refusedWithoutTape("400 bytes behind 10 at once", -3, o -> {
            Sentences.tape(o, new int[400]);
            return o.read(3, 0);
        });
        t.of("Promise 8", "told in this order: -1, -2, -3");
        refusedWithoutTape("no gauge and no such WIDTH", -1, o -> o.read(6, 6));
        refusedWithoutTape("no such WIDTH, and too many bytes", -2, o -> {
            Sentences.tape(o, new int[400]);
            return o.read(0, 6);
        });
    }

    private static void tear() {
        t.of("Promise 9", "NONE: no GAUGE");
        for (int p : NO_GAUGES) {
            refused("tear(" + p + ", 0, 0)", -1, o -> o.tear(p, 0, 0));
        }
        t.of("Promise 9", "NONE: .. a Sum");
        refused("of a Sum", -1, o -> o.tear(SUM, 0, 0));
        t.of("Promise 9", "NONE: .. it has not both SPANS");
        int[][] spans = {{-1, 0}, {-1, -1}, {0, 10}, {10, 10}, {9, 10}, {MIN, 9}, {0, MAX}, {MAX, MAX}, {MIN, MAX}};
        for (int[] x : spans) {
            refused("SPANS " + x[0] + " to " + x[1], -1, o -> o.tear(0, x[0], x[1]));
        }
        refused("of one without SPANS", -1, o -> o.tear(11, 0, 0));
        t.of("Promise 9", "NONE: .. from is above to");
        refused("SPANS 1 to 0", -1, o -> o.tear(0, 1, 0));
        refused("SPANS 9 to 8", -1, o -> o.tear(0, 9, 8));
        refused("SPANS 9 to -1", -1, o -> o.tear(0, 9, -1));
    }

    private static void fill() {
        t.of("Promise 10", "false, if there is no GAP");
        for (int p : NO_GAUGES) {
            refused("fill(" + p + ", 4, 1)", 0, o -> Sentences.bit(o.fill(p, 4, 1)));
        }
        for (int span : new int[] {0, 3, 5, 9, 10, -1, MIN, MAX}) {
            refused("SPAN " + span, 0, o -> Sentences.bit(o.fill(0, span, 1)));
        }
        refused("of one without SPANS", 0, o -> Sentences.bit(o.fill(11, 0, 1)));
        refused("nothing of a Dumb", 0, o -> Sentences.bit(o.fill(3, 4, 1)));
        t.of("Promise 10", "false, if .. the number is not as told");
        for (int reading : new int[] {1000001, -1000001, 2000000, 3000000, MIN, MAX}) {
            refused("a READING of " + reading, 0, o -> Sentences.bit(o.fill(0, 4, reading)));
        }
        t.of("Promise 10", "false, if .. it is a Sum");
        refused("of a Sum", 0, o -> Sentences.bit(o.fill(SUM, 4, 1)));
    }

    private static void tellOfGauges() {
        t.of("Promise 11", "NONE: no GAUGE");
        for (int p : NO_GAUGES) {
            refused("row(" + p + ", 0)", -1, o -> o.row(p, 0));
            refused("row(" + p + ", 6)", -1, o -> o.row(p, 6));
        }
        t.of("Promise 11", "NONE: .. or another what");
        for (int what : new int[] {-1, 7, MIN, MAX}) {
            refused("row(0, " + what + ")", -1, o -> o.row(0, what));
        }
        t.of("Promise 12", "NoSuchElementException: no GAUGE");
        for (int p : NO_GAUGES) {
            refused("span(" + p + ", 0)", THROWN, o -> o.span(p, 0));
        }
        t.of("Promise 12", "NoSuchElementException: .. or no such SPAN");
        for (int span : new int[] {-1, 10, MIN, MAX}) {
            refused("span(0, " + span + ")", THROWN, o -> o.span(0, span));
            refused("span(4, " + span + ") of a Sum", THROWN, o -> o.span(SUM, span));
        }
        refused("span(11, 0) without SPANS", THROWN, o -> o.span(11, 0));
        turn();
        cycle();
    }

    private static void turn() {
        t.of("Promise 13", "NoSuchElementException: there is none such");
        for (int p : NO_GAUGES) {
            refused("turn(" + p + ", 0, 0)", THROWN, o -> o.turn(p, 0, 0));
            refused("turn(" + p + ", 1, 0)", THROWN, o -> o.turn(p, 1, 0));
        }
        for (int sort : new int[] {-1, 2, MIN, MAX}) {
            refused("turn(0, " + sort + ", 0)", THROWN, o -> o.turn(0, sort, 0));
        }
        for (int k : new int[] {-1, 9, MIN, MAX}) {
            refused("turn(0, 0, " + k + ")", THROWN, o -> o.turn(0, 0, k));
        }
        for (int k : new int[] {-1, 5, MIN, MAX}) {
            refused("turn(0, 1, " + k + ")", THROWN, o -> o.turn(0, 1, k));
        }
        refused("of one without SPANS", THROWN, o -> o.turn(11, 0, 0));
        refused("of the REST of one without SPANS", THROWN, o -> o.turn(11, 1, 0));
    }

    private static void cycle() {
        t.of("Promise 14", "NoSuchElementException: there is none such");
        for (int p : NO_GAUGES) {
            refused("cycle(" + p + ", 0, 0)", THROWN, o -> o.cycle(p, 0, 0));
        }
        for (int k : new int[] {-1, 2, MIN, MAX}) {
            refused("cycle(0, " + k + ", 0)", THROWN, o -> o.cycle(0, k, 0));
        }
        refused("of one without SPANS", THROWN, o -> o.cycle(11, 0, 0));
        t.of("Promise 14", "NoSuchElementException: .. or another what");
        for (int what : new int[] {-1, 7, MIN, MAX}) {
            refused("cycle(0, 0, " + what + ")", THROWN, o -> o.cycle(0, 0, what));
        }
    }

    private static void checked(String what, long due, int p, int... bytes) {
        refusedWithoutTape(what, due, o -> {
            Sentences.tape(o, bytes);
            return o.check(p);
        });
    }

    private static void check() {
        t.of("Promise 15", "The tape (empty then) .. NONE: no GAUGE");
        for (int p : NO_GAUGES) {
            checked("check(" + p + ")", -1, p, 2, 3);
        }
        checked("no GAUGE, and an odd number of bytes", -1, 5, 2);
        t.of("Promise 15", "The tape (empty then) .. -2: an odd number of bytes");
        checked("one byte", -2, 0, 2);
        checked("three bytes", -2, 0, 2, 3, 6);
        t.of("Promise 15", "The tape (empty then) .. -2: .. a TURN that there is not");
        checked("TURN 9 of 9, first", -2, 0, 9, 3);
        checked("TURN 9 of 9, last", -2, 0, 2, 3, 5, 9);
        checked("TURN 255", -2, 0, 255, 255);
        checked("TURN 0 of none", -2, 11, 0, 0);
        t.of("Promise 15", "The tape (empty then) .. else 1 and the least TURN");
        checked("a wrong one", 1, 0, 0, 1);
        t.of("Promise 15", "The tape (empty then) .. 0, if they are just these");
        checked("just these", 0, 0, 2, 3, 5, 6);
    }

    private static void detailAndBound() {
        t.of("Promise 16", "false, if one is none");
        for (int d : NO_DETAILS) {
            refused("detail(" + d + ", 0)", 0, o -> Sentences.bit(o.detail(d, 0)));
            refused("detail(" + d + ", NONE)", 0, o -> Sentences.bit(o.detail(d, -1)));
        }
        for (int p : new int[] {-2, 12, MIN, MAX}) {
            refused("detail(0, " + p + ")", 0, o -> Sentences.bit(o.detail(0, p)));
        }
        t.of("Promise 17", "NONE, if there is no such DETAIL");
        for (int d : NO_DETAILS) {
            refused("bound(" + d + ", 100, 1)", -1, o -> o.bound(d, 100, 1));
        }
        t.of("Promise 17", "the range is not above that of the one ahead");
        for (int range : new int[] {30, 29, 0, -1, MIN}) {
            refused("bound(0, " + range + ", 1)", -1, o -> o.bound(0, range, 1));
        }
        t.of("Promise 17", "(0 for the first one)");
        for (int range : new int[] {0, -1, MIN}) {
            refused("bound(11, " + range + ", 1)", -1, o -> o.bound(11, range, 1));
        }
        t.of("Promise 17", "it BEARS not as told");
        for (int bears : new int[] {0, -1, -10, 17, 27, 49, 121, 169, 2048, 390625, 10000001,
            10010000, 20000000, MIN, MAX}) {
            refused("bound(0, 31, " + bears + ")", -1, o -> o.bound(0, 31, bears));
        }
        t.of("Promise 17", "or there are 6");
        refused("a seventh", -1, o -> o.bound(10, 61, 1));
        refused("a seventh, the greatest", -1, o -> o.bound(10, MAX, 1));
    }

    private static void meanAndStep() {
        t.of("Promise 18", "NONE: likewise (no such DETAIL)");
        for (int d : NO_DETAILS) {
            refused("mean(" + d + ", 100, 100)", -1, o -> o.mean(d, 100, 100));
        }
        t.of("Promise 18", "(above the one ahead; the first one any)");
        for (int mean : new int[] {20, 19, 0, -1, MIN}) {
            refused("mean(0, " + mean + ", 100)", -1, o -> o.mean(0, mean, 100));
        }
        t.of("Promise 18", "a percentage 10 to 400");
        for (int percentage : new int[] {9, 401, 0, -100, MIN, MAX}) {
            refused("mean(0, 21, " + percentage + ")", -1, o -> o.mean(0, 21, percentage));
            refused("first: mean(11, 5, " + percentage + ")", -1, o -> o.mean(11, 5, percentage));
        }
        t.of("Promise 18", "NONE: likewise; 4");
        refused("a fifth", -1, o -> o.mean(10, 41, 100));
        refused("a fifth, the greatest", -1, o -> o.mean(10, MAX, 100));
        t.of("Promise 22", "NONE likewise (no such DETAIL)");
        for (int d : NO_DETAILS) {
            refused("step(" + d + ", 100, 1)", -1, o -> o.step(d, 100, 1));
        }
        t.of("Promise 22", "length above that of the one ahead, 0 or more");
        for (int length : new int[] {30, 29, 0, -1, MIN}) {
            refused("step(0, " + length + ", 1)", -1, o -> o.step(0, length, 1));
        }
        refused("first: step(11, -1, 1)", -1, o -> o.step(11, -1, 1));
        refused("first: step(11, MIN, 1)", -1, o -> o.step(11, MIN, 1));
        t.of("Promise 22", "by 0 to 1000000");
        for (int by : new int[] {-1, 1000001, MIN, MAX}) {
            refused("step(0, 31, " + by + ")", -1, o -> o.step(0, 31, by));
        }
        t.of("Promise 22", "NONE likewise; 4");
        refused("a fifth", -1, o -> o.step(10, 61, 1));
        refused("a fifth, the greatest", -1, o -> o.step(10, MAX, 1));
    }

    private static void limitWorstCrackMend() {
        int[] beyond = {-1, 4000001, MIN, MAX};
        t.of("Promises 19, 20, 21, 23", "if there is no such DETAIL");
        for (int d : NO_DETAILS) {
            refused("limit(" + d + ", 1)", 0, o -> Sentences.bit(o.limit(d, 1)));
            refused("worst(" + d + ", 1)", 0, o -> Sentences.bit(o.worst(d, 1)));
            refused("crack(" + d + ", 1, 1)", 0, o -> Sentences.bit(o.crack(d, 1, 1)));
            refused("mend(" + d + ")", -1, o -> o.mend(d));
        }
        t.of("Promise 19", "a LIMIT (0 to 4000000) .. false, if .. it is not as told");
        for (int limit : beyond) {
            refused("limit(0, " + limit + ")", 0, o -> Sentences.bit(o.limit(0, limit)));
        }
        t.of("Promise 20", "a WORST range (0 to 4000000): .. false likewise");
        for (int range : beyond) {
            refused("worst(0, " + range + ")", 0, o -> Sentences.bit(o.worst(0, range)));
        }
        t.of("Promise 21", "a THRESHOLD (0 to 4000000): .. false likewise");
        for (int threshold : beyond) {
            refused("crack(0, 1, " + threshold + ")", 0, o -> Sentences.bit(o.crack(0, 1, threshold)));
        }
        t.of("Promise 21", "a CRACK of a length (0 to 1000000; ..): .. false likewise");
        for (int length : new int[] {-1, 1000001, MIN, MAX}) {
            refused("crack(0, " + length + ", 0)", 0, o -> Sentences.bit(o.crack(0, length, 0)));
            refused("crack(11, " + length + ", 0)", 0, o -> Sentences.bit(o.crack(11, length, 0)));
        }
    }

    private static void tellOfDetails() {
        t.of("Promises 24, 25, 26", "NoSuchElementException: no such DETAIL");
        for (int d : NO_DETAILS) {
            refused("damage(" + d + ", 0, 0)", THROWN, o -> o.damage(d, 0, 0));
            refused("part(" + d + ", 6)", THROWN, o -> o.part(d, 6));
            refused("parts(" + d + ", 0)", THROWN, o -> o.parts(d, 0));
        }
        t.of("Promise 24", "NoSuchElementException: no such .. sort");
        for (int sort : new int[] {-1, 2, MIN, MAX}) {
            refused("damage(0, " + sort + ", 0)", THROWN, o -> o.damage(0, sort, 0));
        }
        t.of("Promise 24", "NoSuchElementException: no such .. what");
        for (int what : new int[] {-1, 3, MIN, MAX}) {
            refused("damage(0, 0, " + what + ")", THROWN, o -> o.damage(0, 0, what));
            refused("damage(0, 1, " + what + ")", THROWN, o -> o.damage(0, 1, what));
        }
        t.of("Promise 25", "NoSuchElementException: no such .. BOUND (6 there is)");
        for (int i : new int[] {-1, 3, 4, 5, 7, MIN, MAX}) {
            refused("part(0, " + i + ") of three", THROWN, o -> o.part(0, i));
        }
        refused("part(10, 7) of six", THROWN, o -> o.part(10, 7));
        refused("part(11, 0) of none", THROWN, o -> o.part(11, 0));
        t.of("Promise 26", "those without a part are left out: NONE");
        for (int k : new int[] {-1, 3, 6, 7, MIN, MAX}) {
            refused("parts(0, " + k + ")", -1, o -> o.parts(0, k));
        }
        leftLengthAndDue();
    }

    private static void leftLengthAndDue() {
        t.of("Promises 27, 28, 29", "NONE, .. no such DETAIL");
        for (int d : NO_DETAILS) {
            refused("left(" + d + ", 1)", -1, o -> o.left(d, 1));
            refused("length(" + d + ")", -1, o -> o.length(d));
            refused("due(" + d + ", 1, 0, 20, 1)", -1, o -> o.due(d, 1, 0, 20, 1));
        }
        t.of("Promise 27", "NONE, if .. days are not as told (1 to 100000)");
        for (int days : new int[] {0, -1, 100001, MIN, MAX}) {
            refused("left(0, " + days + ")", -1, o -> o.left(0, days));
        }
        t.of("Promise 27", "NONE, if LEAST is 0");
        refused("left(1, 1)", -1, o -> o.left(1, 1));
        t.of("Promise 28", "NONE without one");
        refused("length(11)", -1, o -> o.length(11));
        t.of("Promise 29", "NONE, if there is .. no CRACK");
        refused("due(11, 1, 0, 0, 1)", -1, o -> o.due(11, 1, 0, 0, 1));
        t.of("Promise 29", "n CYCLES a day (1 to 1000) .. or a number is not as told");
        t.is("n 1000 is taken", Sentences.busy().due(0, 1000, 0, 500000, 1) > 0);
        for (int n : new int[] {0, -1, 1001, MIN, MAX}) {
            refused("n " + n, -1, o -> o.due(0, n, 0, 500000, 1));
        }
        t.of("Promise 29", "every, 1 to 10000 .. or a number is not as told");
        t.is("every 10000 is taken", Sentences.busy().due(0, 1, 0, 500000, 10000) > 0);
        for (int every : new int[] {0, -1, 10001, MIN, MAX}) {
            refused("every " + every, -1, o -> o.due(0, 1, 0, 500000, every));
        }
        t.of("Promise 29", "seen is above end");
        refused("seen 91, end 90", -1, o -> o.due(0, 1, 91, 90, 1));
        refused("seen MAX, end 90", -1, o -> o.due(0, 1, MAX, 90, 1));
        t.of("Promise 29", "one is below 0");
        refused("seen -1", -1, o -> o.due(0, 1, -1, 90, 1));
        refused("seen MIN", -1, o -> o.due(0, 1, MIN, 90, 1));
        refused("seen and end -1", -1, o -> o.due(0, 1, -1, -1, 1));
        refused("end MIN", -1, o -> o.due(0, 1, 0, MIN, 1));
        t.of("Promise 33", "NONE for another what");
        for (int what : new int[] {-1, 5, MIN, MAX}) {
            refused("count(" + what + ")", -1, o -> o.count(what));
        }
    }

    /** What only tells changes nothing either. */
    private static void whatTells() {
        t.of("Terms 4", "ACTS: .. (what only tells is none)");
        Sentences.Call[] calls = {o -> o.kind(0), o -> o.row(0, 5), o -> o.row(SUM, 6), o -> o.span(SUM, 3),
            o -> o.turn(1, 0, 1), o -> o.turn(2, 1, 1), o -> o.cycle(0, 1, 4), o -> o.damage(0, 0, 1),
            o -> o.damage(10, 1, 0), o -> o.part(0, 6), o -> o.parts(0, 0), o -> o.left(0, 9),
            o -> o.length(0), o -> o.due(0, 3, 10, 80, 2), o -> o.count(3)};
        for (int i = 0; i < calls.length; i++) {
            refused("telling " + i, Sentences.answer(calls[i], Sentences.busy()), calls[i]);
        }
    }

    private static void nothingToUndoOrGoBackTo() {
        t.of("Promise 30", "false, if there is none");
        LoadCounter o = Sentences.busy();
        o.undo();
        t.is("a second undo", Sentences.bit(o.undo()), 0);
        LoadCounter x = Sentences.busy();
        x.undo();
        t.same("all is as it was", Sentences.stateOf(o), Sentences.stateOf(x));
        t.of("Promise 32", "false without one");
        LoadCounter y = Sentences.strain(1, 2, 3);
        Sentences.tape(y, 1, 2, 3);
        t.is("again", Sentences.bit(y.again()), 0);
        t.is("the ACT can be undone still", y.count(3), 1);
        LoadCounter z = Sentences.strain(1, 2, 3);
        Sentences.tape(z, 1, 2, 3);
        t.same("all is as it was", Sentences.stateOf(y), Sentences.stateOf(z));
    }

    public static void main(String[] args) {
        theOfficeIsBusy();
        tape();
        put();
        plugAndTake();
        read();
        tear();
        fill();
        tellOfGauges();
        check();
        detailAndBound();
        meanAndStep();
        limitWorstCrackMend();
        tellOfDetails();
        whatTells();
        nothingToUndoOrGoBackTo();
        t.end();
    }
}
