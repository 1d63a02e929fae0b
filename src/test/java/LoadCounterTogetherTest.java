/** Sentences of the document that reach into one another: what one says where another is at work. */
public final class LoadCounterTogetherTest {
    private static final int GAP = Sentences.GAP;
    private static final int BEYOND = Sentences.BEYOND;
    private static final long LIFE = Sentences.LIFE;
    private static final int STEP = 1;
    private static final int PEAK = 2;
    private static final int DUMB = 3;
    private static final int SUM = 4;

    private static final Sentences t = new Sentences();

    /** PLACE 0 has such a GAUGE with these, and DETAIL 0 is there. */
    private static LoadCounter gauge(int kind, int a, int b, int... numbers) {
        LoadCounter o = new LoadCounter();
        o.put(0, kind, a, b);
        Sentences.load(o, 0, numbers);
        o.detail(0, 0);
        return o;
    }

    private static void fraction(String what, LoadCounter o, int sort, long above, long below) {
        t.is(what + ", above", o.damage(0, sort, 0), above);
        t.is(what + ", below", o.damage(0, sort, 1), below);
    }

    private static void limitWithMeans() {
        t.of("Terms 3", "CYCLES by number, then HALVES; of those whose EFFECT is below LIMIT only such as come behind");
        LoadCounter o = Sentences.strain(0, 10, 2, 11, 10);
        o.mean(0, 11, 10);
        o.mean(0, 12, 100);
        o.limit(0, 8);
        t.is("a CYCLE of 8, HALVES of 2 and 1 behind it", o.part(0, 6), 2 * LIFE);
        o.limit(0, 9);
        t.is("none is 9", o.part(0, 6), 0);
        LoadCounter x = Sentences.strain(0, 10, 2, 11, 0);
        x.mean(0, 12, 10);
        x.limit(0, 2);
        t.is("a CYCLE of 1 ahead of HALVES of 2", x.part(0, 6), LIFE);
        x.limit(0, 1);
        t.is("none is below 1", x.part(0, 6), 2 * LIFE);
    }

    private static void limitWithWorst() {
        t.of("Terms 3", "MOST: LEAST, and for each GAP from the BEGINNING on 1 / what WORST BEARS (as an EFFECT)");
        LoadCounter o = Sentences.strain(0, BEYOND, 9, BEYOND);
        o.bound(0, 5, 100);
        o.bound(0, 9, 10);
        o.worst(0, 5);
        fraction("without a LIMIT", o, 1, 7, 100);
        o.limit(0, 8);
        fraction("WORST below LIMIT", o, 1, 7, 100);
        o.limit(0, 10);
        fraction("all below LIMIT", o, 1, 1, 50);
        fraction("LEAST then", o, 0, 0, 1);
        o.mean(0, 1000, 200);
        o.limit(0, 19);
        fraction("no MEAN is for WORST", o, 1, 1, 50);
    }

    private static void gapsAreNoPart() {
        t.of("Promise 25", "The part of LEAST that is of BOUND i (6: of none)");
        LoadCounter o = Sentences.strain(0, BEYOND, 0, BEYOND);
        t.is("MOST", o.damage(0, 1, 0), 2);
        t.is("6 without BOUNDS", o.part(0, 6), 0);
        t.is("none by size", o.parts(0, 0), -1);
        t.is("days left", o.left(0, 7), -1);
        o.bound(0, 5, 10);
        t.is("BOUND 0", o.part(0, 0), 0);
        t.is("MOST of that", o.damage(0, 1, 1), 5);
        t.is("is MOST 1 or more", o.damage(0, 1, 2), 0);
    }

    private static void kindsFromTheBeginning() {
        t.of("Terms 1", "The ROW of a GAUGE, from a SPAN on: .. of a Step the first one, then each that is by SIZE or more");
        LoadCounter step = gauge(STEP, 5, 0, 0, 10, 12);
        step.bound(0, 5, 10);
        step.bound(0, 6, 100);
        t.is("a Step is mended", step.mend(0), 3);
        Sentences.load(step, 0, 13, 14, 19);
        t.is("13 and 19", step.part(0, 1), LIFE / 200);
        t.is("nothing else", step.part(0, 0) + step.part(0, 6), 0);
        t.of("Terms 1", "The ROW of a GAUGE, from a SPAN on: .. of a Peak the TURNS of its READINGS");
        LoadCounter peak = gauge(PEAK, 0, 0, 0, 5, 10);
        peak.bound(0, 3, 10);
        peak.bound(0, 4, 100);
        t.is("a Peak is mended", peak.mend(0), 3);
        Sentences.load(peak, 0, 7, 3);
        t.is("7 and 3", peak.part(0, 1), LIFE / 200);
        t.is("nothing else", peak.part(0, 0) + peak.part(0, 6), 0);
        t.of("Promise 23", "its BEGINNING is behind the last SPAN of its GAUGE");
        LoadCounter dumb = gauge(DUMB, 0, 2, 1, 2, 3);
        t.is("of a Dumb those with nothing too", dumb.mend(0), 3);
        Sentences.load(dumb, 0, 4, 13);
        dumb.bound(0, 9, 100);
        t.is("4 and 13", dumb.part(0, 0), LIFE / 200);
        LoadCounter sum = gauge(0, 0, 0, 1, 2, 3, 4);
        sum.put(1, 0, 0, 0);
        Sentences.load(sum, 1, 1, BEYOND);
        sum.put(2, SUM, 0, 1);
        sum.detail(0, 2);
        t.is("of a Sum as many as it has", sum.mend(0), 2);
        Sentences.load(sum, 1, 6, BEYOND);
        fraction("one GAP from there on", sum, 1, 1, 1);
        t.is("one READING from there on", sum.damage(0, 0, 0), 0);
    }

    private static void crackFromTheBeginning() {
        t.of("Terms 3", "CRACK: from its length on each CYCLE .. of the ROW .. from the BEGINNING on");
        LoadCounter o = Sentences.strain(0, 10, 2, 11);
        o.step(0, 100, 3);
        o.crack(0, 5, 0);
        t.is("one CYCLE", o.length(0), 8);
        o.mend(0);
        o.crack(0, 5, 0);
        t.is("none behind the BEGINNING", o.length(0), 5);
        t.is("nor for due", o.due(0, 1, 0, 11, 1), 0);
        Sentences.load(o, 0, 0, 10, 2, 11);
        t.is("one behind it", o.length(0), 8);
        o.detail(0, 1);
        t.is("nowhere to grow", o.length(0), 5);
        o.detail(0, -1);
        t.is("nowhere at all", o.length(0), 5);
        t.of("Promise 29", "the first day a at whose end it has a length of seen or more .. (0: it has now)");
        LoadCounter x = Sentences.strain(0, 10, 2, 11);
        x.step(0, 100, 3);
        x.crack(0, 5, 0);
        t.is("6 is seen now, by what was read", x.due(0, 1, 6, 20, 3), 0);
        t.is("8 too", x.due(0, 1, 8, 20, 3), 0);
        t.is("9 on day 1", x.due(0, 1, 9, 20, 3), -1);
        t.is("9 on day 1, every 2", x.due(0, 1, 9, 20, 2), 1);
    }

    private static void mendLeavesTheRest() {
        t.of("Promise 23", "DETAIL d is mended: its BEGINNING .., and it has no CRACK");
        LoadCounter o = Sentences.strain(0, 9, 0, 9);
        o.bound(0, 9, 10);
        o.mean(0, 100, 50);
        o.step(0, 100, 3);
        o.limit(0, 5);
        o.worst(0, 6);
        o.mend(0);
        Sentences.load(o, 0, 0, 9, 1, 8, BEYOND);
        t.alike("HALVES of 5, 4, 4 by a MEAN and a LIMIT", new int[] {o.row(0, 0), o.row(0, 1)}, 9, 1);
        fraction("by BOUND", o, 0, 3, 20);
        fraction("by WORST", o, 1, 1, 4);
        o.crack(0, 7, 0);
        t.is("by STEP", o.due(0, 1, 0, 13, 1), 0);
    }

    private static void detailStaysAtItsPlace() {
        t.of("Promise 16", "DETAIL d is at PLACE p");
        LoadCounter o = Sentences.strain(0, 9);
        o.mend(0);
        o.take(0);
        o.put(0, PEAK, 0, 0);
        Sentences.load(o, 0, 1, 2, 5, 9);
        t.is("whatever is in it: 5 and 9", o.damage(0, 0, 1), 2);
        t.of("Terms 3", "DETAILS 0 .. 11 have a PLACE ..");
        o.detail(11, 0);
        o.bound(11, 8, 5);
        o.crack(11, 3, 0);
        t.is("one BOUND each", o.bound(0, 4, 5), 1);
        t.is("BOUND of DETAIL 0", o.part(0, 0), LIFE / 10);
        t.is("BOUND of DETAIL 11, from SPAN 0 on", o.part(11, 0), LIFE / 10);
        t.is("no CRACK in DETAIL 0", o.length(0), -1);
        t.is("one in DETAIL 11", o.length(11), 3);
    }

    private static void sumIsOfNow() {
        t.of("Terms 1", "A Sum .. the sum, if both have a READING; else a GAP, if one has a GAP");
        LoadCounter o = gauge(0, 0, 0, 1, 2, 3);
        o.put(1, DUMB, 2, 2);
        Sentences.load(o, 1, 10, 20, 30);
        o.put(2, SUM, 0, 1);
        t.alike("at first", Sentences.spans(o, 2), 11, 22, Sentences.NOTHING);
        o.tear(0, 1, 2);
        t.alike("torn", Sentences.spans(o, 2), 11, GAP, GAP);
        o.fill(0, 1, 5);
        t.alike("filled", Sentences.spans(o, 2), 11, 25, GAP);
        o.undo();
        t.alike("undone", Sentences.spans(o, 2), 11, GAP, GAP);
        o.image();
        o.plug(1);
        t.is("of a PLUG", o.row(2, 0), 0);
        o.put(1, SUM, 0, 0);
        t.is("of a Sum", o.row(2, 0), 0);
        o.again();
        t.alike("as in the IMAGE", Sentences.spans(o, 2), 11, GAP, GAP);
        Sentences.load(o, 1, 40);
        t.is("one is longer", o.row(2, 0), 3);
        Sentences.load(o, 0, 4);
        t.alike("both are", Sentences.spans(o, 2), 11, GAP, GAP, 44);
    }

    private static void gapsOfADumb() {
        t.of("Promise 9", "SPANS .. are GAPS (those of a Dumb that have nothing stay so)");
        LoadCounter o = gauge(DUMB, 1, 2, 0, 5, 6, 9);
        t.is("HALF a life", o.damage(0, 1, 1), 2);
        t.is("two READINGS went", o.tear(0, 0, 3), 2);
        fraction("two GAPS", o, 1, 2, 1);
        t.is("LEAST is nothing", o.damage(0, 0, 0), 0);
        o.fill(0, 0, 3);
        o.fill(0, 3, 4);
        fraction("both are filled", o, 1, 1, 2);
    }

    private static void undoWithImage() {
        t.of("Terms 4", "The latest one can be undone .. An IMAGE of all (board, details) can be made, and gone back to");
        LoadCounter o = Sentences.strain(0, 9);
        o.plug(1);
        o.image();
        t.is("the ACT ahead of an IMAGE is undone", o.undo());
        t.is("nothing in PLACE 1", o.kind(1), -1);
        t.is("back", o.again());
        t.is("the IMAGE has the PLUG still", o.kind(1), 5);
        o.crack(0, 7, 0);
        o.image();
        o.undo();
        t.is("no CRACK", o.length(0), -1);
        o.again();
        t.is("the IMAGE has the CRACK still", o.length(0), 7);
        o.tear(0, 0, 1);
        o.undo();
        t.is("undone behind again()", o.row(0, 2), 2);
        o.tear(0, 0, 0);
        o.again();
        t.is("back a second time", o.row(0, 2), 2);
        t.is("nothing to undo", Sentences.bit(o.undo()), 0);
        Sentences.tape(o, 1, 2, 3);
        o.again();
        t.is("the tape is no part of it", o.count(0), 3);
    }

    private static void checkOfKinds() {
        t.of("Promise 15", "the ROW has more than 256 TURNS");
        int[] twice = new int[400];
        int[] outwards = Sentences.outwards(200);
        for (int i = 0; i < 400; i++) {
            twice[i] = outwards[i / 2];
        }
        LoadCounter o = gauge(0, 0, 0, twice);
        t.is("400 READINGS, 200 TURNS", o.row(0, 4), 200);
        t.is("no CYCLE", o.check(0), 0);
        Sentences.tape(o, 199, 0);
        t.is("the last TURN with the first", o.check(0), 1);
        Sentences.tape(o, 199, 200);
        t.is("TURN 200", o.check(0), -2);
        t.is("a Step of one READING", gauge(STEP, 5, 0, Sentences.zigzag(400)).check(0), 0);
        t.is("a Peak of 400 TURNS", gauge(PEAK, 0, 0, Sentences.zigzag(400)).check(0), -2);
        t.of("Promise 15", "as CYCLES of the ROW of PLACE p");
        LoadCounter x = gauge(0, 0, 0, 0, 10, 2, 11);
        x.mend(0);
        Sentences.tape(x, 2, 1);
        t.is("from SPAN 0 on, wherever a BEGINNING is", x.check(0), 0);
    }

    public static void main(String[] args) {
        limitWithMeans();
        limitWithWorst();
        gapsAreNoPart();
        kindsFromTheBeginning();
        crackFromTheBeginning();
        mendLeavesTheRest();
        detailStaysAtItsPlace();
        sumIsOfNow();
        gapsOfADumb();
        undoWithImage();
        checkOfKinds();
        t.end();
    }
}
