import java.util.Arrays;

/** One test for each sentence of the document's 'Terms' that names an edge. */
public final class LoadCounterTermsTest {
    private static final int GAP = Sentences.GAP;
    private static final int NOTHING = Sentences.NOTHING;
    private static final int BEYOND = Sentences.BEYOND;
    private static final int MIN = Sentences.MIN;
    private static final int MAX = Sentences.MAX;
    private static final long LIFE = Sentences.LIFE;
    private static final int BYTES = 0;
    private static final int SHORTS = 1;
    private static final int INTS = 2;
    private static final int LONGS = 3;
    private static final int FLOATS = 4;
    private static final int DOUBLES = 5;

    private static final Sentences t = new Sentences();

    private static LoadCounter gauge(int kind, int a, int b, int... numbers) {
        LoadCounter o = new LoadCounter();
        o.put(0, kind, a, b);
        Sentences.load(o, 0, numbers);
        return o;
    }

    /** A Strain reads these bytes. */
    private static int[] fed(int width, int... bytes) {
        LoadCounter o = new LoadCounter();
        o.put(0, 0, 0, 0);
        Sentences.tape(o, bytes);
        o.read(0, width);
        return Sentences.spans(o, 0);
    }

    private static int[] fedBits(int width, int size, long bits) {
        int[] bytes = new int[size];
        for (int i = 0; i < size; i++) {
            bytes[i] = (int) (bits >> 8 * (size - 1 - i)) & 255;
        }
        return fed(width, bytes);
    }

    private static void board() {
        t.of("Terms 1", "A BOARD has PLACES 0 .. 11");
        LoadCounter o = new LoadCounter();
        for (int p = 0; p < 12; p++) {
            t.is("put(" + p + ")", o.put(p, 0, 0, 0));
        }
        t.is("gauges", o.count(1), 12);
        t.is("PLACE 12", o.kind(12), -2);
        t.is("PLACE -1", o.kind(-1), -2);
        t.of("Terms 1", "1 Step (with a SIZE, 1 to 100000)");
        t.is("0", Sentences.bit(o.put(0, 1, 0, 0)), 0);
        t.is("100001", Sentences.bit(o.put(0, 1, 100001, 0)), 0);
        t.is("1", o.put(0, 1, 1, 0));
        Sentences.load(o, 0, 0, 0, 1, 0, 0);
        t.is("by 1 or more", o.row(0, 3), 3);
        t.is("100000", o.put(0, 1, 100000, 0));
        Sentences.load(o, 0, 0, 99999, 100000, 1, 0);
        t.is("by 100000 or more", o.row(0, 3), 3);
        t.of("Terms 1", "4 Sum (of two PLACES, which may be one)");
        LoadCounter x = gauge(0, 0, 0, 7, -500000, 500001);
        x.put(11, 4, 0, 0);
        t.alike("of 0 and 0", Sentences.spans(x, 11), 14, -1000000, GAP);
        t.of("Terms 1", "A GAUGE has SPANS 0, 1, .. , 400 at most");
        LoadCounter y = gauge(0, 0, 0, new int[400]);
        t.is("400", y.row(0, 0), 400);
        Sentences.tape(y, 5);
        t.is("401", y.read(0, 0), -3);
        t.is("400 still", y.row(0, 0), 400);
        t.is("SPAN 0", y.span(0, 0), 0);
        t.is("SPAN 399", y.span(0, 399), 0);
        t.is("SPAN 400", Sentences.answer(z -> z.span(0, 400), y), Sentences.THROWN);
        t.is("none", gauge(0, 0, 0).row(0, 0), 0);
    }

    private static void readings() {
        t.of("Terms 1", "a READING (whole, -1000000 to 1000000)");
        t.alike("ints", Sentences.spans(gauge(0, 0, 0, 1000000, 1000001, -1000000, -1000001, MIN, MAX), 0),
            1000000, GAP, -1000000, GAP, GAP, GAP);
        LoadCounter o = gauge(0, 0, 0, BEYOND, BEYOND, BEYOND, BEYOND);
        t.is("filled 1000000", o.fill(0, 0, 1000000));
        t.is("filled -1000000", o.fill(0, 1, -1000000));
        t.is("filled 1000001", Sentences.bit(o.fill(0, 2, 1000001)), 0);
        t.is("filled -1000001", Sentences.bit(o.fill(0, 3, -1000001)), 0);
        t.alike("SPANS", Sentences.spans(o, 0), 1000000, -1000000, GAP, GAP);
        t.of("Terms 1", "0 bytes, 1 shorts, 2 ints, 3 longs (with a sign) .. the highest byte first");
        t.alike("bytes", fed(BYTES, 127, 128, 255, 0, 1), 127, -128, -1, 0, 1);
        t.alike("shorts", fed(SHORTS, 127, 255, 128, 0, 255, 255, 0, 0, 1, 2), 32767, -32768, -1, 0, 258);
        t.alike("ints", fed(INTS, 0, 15, 66, 64, 255, 240, 189, 192, 255, 255, 255, 255, 0, 1, 2, 3),
            1000000, -1000000, -1, 66051);
        t.alike("longs", fed(LONGS, 0, 0, 0, 0, 0, 15, 66, 64, 255, 255, 255, 255, 255, 240, 189, 192),
            1000000, -1000000);
        t.alike("long -1", fedBits(LONGS, 8, -1), -1);
        t.alike("long 1000001", fedBits(LONGS, 8, 1000001), GAP);
        t.alike("long -1000001", fedBits(LONGS, 8, -1000001), GAP);
        t.alike("long 2^32", fedBits(LONGS, 8, 1L << 32), GAP);
        t.alike("long 2^63 - 1", fedBits(LONGS, 8, Long.MAX_VALUE), GAP);
        t.alike("long -2^63", fedBits(LONGS, 8, Long.MIN_VALUE), GAP);
        t.alike("an int with the highest bit alone", fedBits(INTS, 4, 0x80000000L), GAP);
    }

    private static void floating(String what, double number, int due) {
        t.alike("double " + what, fedBits(DOUBLES, 8, Double.doubleToRawLongBits(number)), due);
        if ((double) (float) number == number || number != number) {
            t.alike("float " + what, fedBits(FLOATS, 4, Float.floatToRawIntBits((float) number)), due);
        }
    }

    private static void floats() {
        t.of("Terms 1", "4 floats, 5 doubles (as IEEE 754 has them) .. that number, cut towards 0");
        double[] cut = {0.0, -0.0, 0.5, -0.5, 1, -1, 1.5, -1.5, 1.9375, -1.9375, 2, 255.9375, -32768.75, 999999.9375,
            -999999.9375, 1000000, -1000000, 524287.9375, 524288, -524288.5, Double.MIN_VALUE, -Double.MIN_VALUE,
            Double.MIN_NORMAL, Float.MIN_VALUE, -Float.MIN_VALUE, Float.MIN_NORMAL};
        for (double x : cut) {
            floating("" + x, x, (int) x);
        }
        floating("nearest below 1", Math.nextDown(1.0), 0);
        floating("nearest above -1", Math.nextUp(-1.0), 0);
        floating("float nearest below 1", Math.nextDown(1f), 0);
        t.of("Terms 1", "or beyond when it is cut");
        floating("nearest below 1000001", Math.nextDown(1000001.0), 1000000);
        floating("nearest above -1000001", Math.nextUp(-1000001.0), -1000000);
        floating("float nearest below 1000001", Math.nextDown(1000001f), 1000000);
        floating("float nearest above -1000001", Math.nextUp(-1000001f), -1000000);
        double[] beyond = {1000001, -1000001, 1048575.5, 1048576, -1048576, 2097152, 1L << 31, 1L << 32, 4294967297.0,
            1L << 62, 18446744073709551616.0, Float.MAX_VALUE, -Float.MAX_VALUE, Double.MAX_VALUE, -Double.MAX_VALUE,
            Double.POSITIVE_INFINITY, Double.NEGATIVE_INFINITY};
        for (double x : beyond) {
            floating("" + x, x, GAP);
        }
        t.of("Terms 1", "a GAP, if it is no number");
        for (int bits : new int[] {0x7fc00000, 0x7f800001, 0x7fffffff, 0xffc00000, 0xff800001, -1}) {
            t.alike("float NaN " + bits, fedBits(FLOATS, 4, bits), GAP);
        }
        for (long bits : new long[] {0x7ff8000000000000L, 0x7ff0000000000001L, Long.MAX_VALUE, 0xfff0000000000001L, -1L}) {
            t.alike("double NaN " + bits, fedBits(DOUBLES, 8, bits), GAP);
        }
    }

    private static void bytesAtTheEnd() {
        t.of("Terms 1", "bytes at the end that are too few for one more: a GAP too");
        int[] sizes = {1, 2, 4, 8, 4, 8};
        for (int width = 0; width < 6; width++) {
            int size = sizes[width];
            for (int more = 0; more < size; more++) {
                int[] due = new int[more == 0 ? 1 : 2];
                due[due.length - 1] = more == 0 ? 0 : GAP;
                t.alike("one and " + more + " of WIDTH " + width, fed(width, new int[size + more]), due);
                t.alike(more + " alone of WIDTH " + width, fed(width, new int[more]),
                    more == 0 ? new int[0] : new int[] {GAP});
            }
        }
    }

    private static void dumb() {
        t.of("Terms 1", "In a Dumb the SPANS told have nothing, whatever is fed or filled");
        LoadCounter o = gauge(3, 1, 2, 5, 6, BEYOND, 8);
        t.alike("1 to 2", Sentences.spans(o, 0), 5, NOTHING, NOTHING, 8);
        t.is("filled", Sentences.bit(o.fill(0, 1, 1)), 0);
        o.tear(0, 0, 3);
        t.alike("torn", Sentences.spans(o, 0), GAP, NOTHING, NOTHING, GAP);
        t.is("filled", Sentences.bit(o.fill(0, 2, 1)), 0);
        t.is("GAPS", o.row(0, 1), 2);
        Sentences.load(o, 0, 1);
        t.is("fed behind", o.span(0, 4), 1);
        t.alike("0 alone", Sentences.spans(gauge(3, 0, 0, 5, 6), 0), NOTHING, 6);
        t.alike("0 to 399", Sentences.spans(gauge(3, 0, 399, 5, 6), 0), NOTHING, NOTHING);
        LoadCounter x = gauge(3, 399, 399, new int[400]);
        t.is("SPAN 398", x.span(0, 398), 0);
        t.is("SPAN 399", x.span(0, 399), NOTHING);
        t.is("READINGS", x.row(0, 2), 399);
        LoadCounter y = gauge(3, 2, 2, 1);
        Sentences.tape(y, 0, 0, 0, 2, 0);
        y.read(0, INTS);
        t.alike("too few bytes there", Sentences.spans(y, 0), 1, 2, NOTHING);
    }

    private static void sumHasAsManySpans() {
        t.of("Terms 1", "A Sum has as many SPANS as that of its two which has fewer");
        LoadCounter o = gauge(0, 0, 0, 1, 2, 3);
        o.put(1, 2, 0, 0);
        o.put(2, 4, 0, 1);
        t.is("3 and 0", o.row(2, 0), 0);
        Sentences.load(o, 1, 1, 2);
        t.is("3 and 2", o.row(2, 0), 2);
        Sentences.load(o, 1, 3);
        t.is("3 and 3", o.row(2, 0), 3);
        Sentences.load(o, 1, 4);
        t.is("3 and 4", o.row(2, 0), 3);
        Sentences.load(o, 0, new int[397]);
        Sentences.load(o, 1, new int[396]);
        t.is("400 and 400", o.row(2, 0), 400);
        t.is("the last", o.span(2, 399), 0);
        t.of("Terms 1", "(none, if one is not a GAUGE that is no Sum)");
        o.put(3, 4, 0, 2);
        t.is("one is a Sum", o.row(3, 0), 0);
        o.put(3, 4, 2, 0);
        t.is("the other is a Sum", o.row(3, 0), 0);
        o.put(3, 4, 3, 3);
        t.is("of itself", o.row(3, 0), 0);
        o.put(3, 4, 0, 11);
        t.is("one is nothing", o.row(3, 0), 0);
        o.plug(11);
        t.is("one is a PLUG", o.row(3, 0), 0);
        t.is("no SPAN", Sentences.answer(x -> x.span(3, 0), o), Sentences.THROWN);
        o.put(11, 0, 0, 0);
        Sentences.load(o, 11, 1);
        t.is("one is a GAUGE then", o.row(3, 0), 1);
        o.take(11);
        t.is("one was taken", o.row(3, 0), 0);
        t.is("a GAUGE without SPANS still", o.row(3, 6), 0);
    }

    private static void sumIs() {
        t.of("Terms 1", "the sum, if both have a READING; else a GAP, if one has a GAP; else nothing");
        LoadCounter o = gauge(3, 3, 5, 1, 2, BEYOND, 4, 5, 6);
        o.put(1, 3, 2, 3);
        Sentences.load(o, 1, 10, BEYOND, 30, 40, BEYOND, 60);
        o.put(2, 4, 0, 1);
        t.alike("0 and 1", Sentences.spans(o, 2), 11, GAP, GAP, NOTHING, GAP, NOTHING);
        o.put(2, 4, 1, 0);
        t.alike("1 and 0", Sentences.spans(o, 2), 11, GAP, GAP, NOTHING, GAP, NOTHING);
        t.is("its GAPS", o.row(2, 1), 3);
        t.is("its READINGS", o.row(2, 2), 1);
        t.of("Terms 1", "a sum beyond is a GAP");
        LoadCounter x = gauge(0, 0, 0, 999999, 1000000, 1000000, -999999, -1000000, -1000000, 1000000, 0);
        x.put(1, 0, 0, 0);
        Sentences.load(x, 1, 1, 1, 1000000, -1, -1, -1000000, -1000000, BEYOND);
        x.put(2, 4, 0, 1);
        t.alike("sums", Sentences.spans(x, 2), 1000000, GAP, GAP, -1000000, GAP, GAP, 0, GAP);
        t.is("GAPS", x.row(2, 1), 5);
        x.detail(0, 2);
        t.is("two HALVES and 5 GAPS", x.damage(0, 1, 0), 1 + 5);
    }

    private static int[] rowOf(LoadCounter o) {
        return new int[] {o.row(0, 2), o.row(0, 3), o.row(0, 4), o.row(0, 5), o.row(0, 6)};
    }

    private static void rows() {
        t.of("Terms 1", "The ROW of a GAUGE: .. its READINGS, one behind the other");
        t.alike("of nothing", rowOf(gauge(0, 0, 0)), 0, 0, 0, 0, 0);
        t.alike("of GAPS alone", rowOf(gauge(0, 0, 0, BEYOND, BEYOND)), 0, 0, 0, 0, 0);
        t.alike("of nothing in a Dumb", rowOf(gauge(3, 0, 9, 1, 2)), 0, 0, 0, 0, 0);
        t.alike("GAPS between go", rowOf(gauge(0, 0, 0, 1, BEYOND, 1, BEYOND, 2)), 3, 3, 2, 0, 2);
        t.of("Terms 1", "of a Step the first one, then each that is by SIZE or more from the one kept last");
        t.alike("the first alone", rowOf(gauge(1, 5, 0, 7)), 1, 1, 1, 0, 1);
        t.alike("by 4", rowOf(gauge(1, 5, 0, 7, 11, 3)), 3, 1, 1, 0, 1);
        t.alike("by 5", Sentences.turns(gauge(1, 5, 0, 7, 12, 7), 0, 0), 7, 12, 7);
        t.alike("from the one kept last, not from the one ahead", rowOf(gauge(1, 5, 0, 0, 3, 6, 9)), 4, 2, 2, 0, 2);
        t.alike("the last one is not kept for that", Sentences.turns(gauge(1, 5, 0, 0, 9, 8), 0, 0), 0, 9);
        t.alike("a GAP is passed over", Sentences.turns(gauge(1, 5, 0, BEYOND, 1, BEYOND, 6), 0, 0), 1, 6);
        t.alike("from end to end", rowOf(gauge(1, 100000, 0, -1000000, 1000000)), 2, 2, 2, 0, 2);
        t.of("Terms 1", "of a Peak the TURNS of its READINGS");
        t.alike("none", rowOf(gauge(2, 0, 0)), 0, 0, 0, 0, 0);
        t.alike("one", rowOf(gauge(2, 0, 0, 3, 3)), 2, 1, 1, 0, 1);
        t.alike("on the way", rowOf(gauge(2, 0, 0, 1, 2, 3, 3, 4, 2, 2, 1)), 8, 3, 3, 0, 3);
        t.alike("of a Strain", rowOf(gauge(0, 0, 0, 1, 2, 3, 3, 4, 2, 2, 1)), 8, 8, 3, 0, 3);
    }

    private static void turns() {
        t.of("Terms 2", "of neighbours that are the same the first; then the first one, the last one, and each between "
            + "that is above both its neighbours, or below both");
        int[][] rows = {{}, {4}, {4, 4, 4}, {4, 5}, {5, 4}, {4, 5, 5}, {4, 4, 5}, {4, 5, 6}, {6, 5, 4}, {4, 6, 5},
            {5, 4, 6}, {4, 6, 6, 5}, {4, 6, 6, 7}, {4, 4, 6, 6, 4, 4}, {1, 2, 3, 2, 1, 1, 2}};
        int[][] due = {{}, {4}, {4}, {4, 5}, {5, 4}, {4, 5}, {4, 5}, {4, 6}, {6, 4}, {4, 6, 5},
            {5, 4, 6}, {4, 6, 5}, {4, 7}, {4, 6, 4}, {1, 3, 1, 2}};
        for (int i = 0; i < rows.length; i++) {
            t.alike("TURNS of " + Arrays.toString(rows[i]), Sentences.turns(gauge(0, 0, 0, rows[i]), 0, 0), due[i]);
        }
        LoadCounter o = gauge(0, 0, 0, Sentences.zigzag(400));
        t.is("400 TURNS", o.row(0, 4), 400);
        t.is("the last", o.turn(0, 0, 399), 1);
        int[] up = new int[400];
        for (int i = 0; i < 400; i++) {
            up[i] = i;
        }
        t.alike("upwards all the way", Sentences.turns(gauge(0, 0, 0, up), 0, 0), 0, 399);
    }

    private static int cyclesOf(int... numbers) {
        return gauge(0, 0, 0, numbers).row(0, 5);
    }

    private static void pile() {
        t.of("Terms 2", "as long as there are four uppermost ones a, b, c, d");
        t.is("three", cyclesOf(0, 9, 0), 0);
        t.is("four", cyclesOf(0, 9, 1, 10), 1);
        LoadCounter o = gauge(0, 0, 0, 0, 10, 1, 9, 2, 8, 3, 7, 4, 20);
        t.is("one TURN closes four", o.row(0, 5), 4);
        int[][] due = {{7, 4, 7, 8, 9, 3, 11}, {8, 3, 5, 6, 9, 5, 11}, {9, 2, 3, 4, 9, 7, 11}, {10, 1, 1, 2, 9, 9, 11}};
        for (int k = 0; k < due.length; k++) {
            t.alike("CYCLE " + k, Sentences.cycle(o, 0, k), due[k]);
        }
        t.alike("the REST", Sentences.turns(o, 0, 1), 0, 20);
        t.of("Terms 2", "b and c both lie from the lesser of a and d to the greater one");
        t.is("just within, upwards", cyclesOf(0, 9, 0, 9), 1);
        t.is("c below a", cyclesOf(0, 9, -1, 9), 0);
        t.is("b above d", cyclesOf(0, 9, 0, 8), 0);
        t.is("just within, downwards", cyclesOf(9, 0, 9, 0), 1);
        t.is("c above a", cyclesOf(9, 0, 10, 0), 0);
        t.is("b below d", cyclesOf(9, 0, 9, 1), 0);
        t.of("Terms 2", "CYCLES are numbered so, from 0 on");
        LoadCounter x = gauge(0, 0, 0, Sentences.zigzag(400));
        t.is("the most CYCLES", x.row(0, 5), 199);
        t.alike("the first", Sentences.cycle(x, 0, 0), 1, 0, 1, 2, 3, 1, 1);
        t.alike("the last", Sentences.cycle(x, 0, 198), 1, 0, 397, 398, 399, 1, 1);
        t.is("CYCLE 199", Sentences.answer(y -> y.cycle(0, 199, 0), x), Sentences.THROWN);
        t.is("the REST of these", x.row(0, 6), 2);
        LoadCounter z = gauge(0, 0, 0, Sentences.outwards(400));
        t.is("no CYCLES", z.row(0, 5), 0);
        t.is("CYCLE 0", Sentences.answer(y -> y.cycle(0, 0, 0), z), Sentences.THROWN);
        t.is("the longest REST", z.row(0, 6), 400);
        t.is("its last", z.turn(0, 1, 399), -399);
    }

    private static void rangeAndMean() {
        t.of("Terms 2", "The RANGE of a CYCLE or HALF is how far its two are apart; its MEAN their sum");
        LoadCounter o = gauge(0, 0, 0, -1000000, 1000000, -1000000, 1000000);
        t.alike("the widest", Sentences.cycle(o, 0, 0), 1000000, -1000000, 1, 2, 3, 2000000, 0);
        o = gauge(0, 0, 0, 0, 1000000, 999999, 1000000);
        t.alike("the highest", Sentences.cycle(o, 0, 0), 1000000, 999999, 1, 2, 3, 1, 1999999);
        o = gauge(0, 0, 0, 0, -1000000, -999999, -1000000);
        t.alike("the lowest", Sentences.cycle(o, 0, 0), -1000000, -999999, 1, 2, 3, 1, -1999999);
        t.of("Terms 2", "each two neighbours in it are a HALF, from its beginning on");
        t.is("a REST of none", Sentences.strain().damage(0, 0, 0), 0);
        t.is("a REST of one", Sentences.strain(5).damage(0, 0, 0), 0);
        LoadCounter x = Sentences.strain(0, 7);
        t.is("a REST of two: 1", x.damage(0, 0, 0), 1);
        t.is("a REST of two: below 2", x.damage(0, 0, 1), 2);
        t.is("a REST of 400", Sentences.strain(Sentences.outwards(400)).part(0, 6), 399 * LIFE / 2);
        LoadCounter y = Sentences.strain(Sentences.outwards(400));
        y.limit(0, 797);
        t.is("the last HALF alone", y.part(0, 6), LIFE / 2);
        y.limit(0, 798);
        t.is("none", y.part(0, 6), 0);
    }

    private static void details() {
        t.of("Terms 3", "DETAILS 0 .. 11 have a PLACE (NONE at first), a BEGINNING (a SPAN, 0)");
        for (int d = 0; d < 12; d++) {
            LoadCounter o = gauge(0, 0, 0, 0, 9);
            t.is("DETAIL " + d + " is nowhere", o.damage(d, 1, 0), 0);
            t.is("DETAIL " + d + " is at 0", o.detail(d, 0));
            t.is("from SPAN 0 on", o.damage(d, 0, 1), 2);
        }
        t.of("Terms 3", "a LIMIT (0), a WORST range (0), a CRACK (NONE), a THRESHOLD (0)");
        LoadCounter o = Sentences.strain(0, 9, 8, BEYOND, 10);
        o.bound(0, 1, 4);
        t.is("LIMIT leaves nothing out", o.part(0, 0), LIFE / 4);
        t.is("LEAST is 3 / 4", o.damage(0, 0, 0) * 10 + o.damage(0, 0, 1), 34);
        t.is("WORST of 0 bears 4", o.damage(0, 1, 0) * 10 + o.damage(0, 1, 1), 11);
        t.is("no CRACK", o.length(0), -1);
        t.is("no CRACK to look for", o.due(0, 1, 0, 0, 1), -1);
        t.of("Terms 3", "up to 6 BOUNDS .. up to 4 MEANS .. up to 4 STEPS");
        for (int i = 1; i <= 7; i++) {
            t.is("BOUND " + i, o.bound(11, i, 1), i <= 6 ? i : -1);
            t.is("MEAN " + i, o.mean(11, i, 100), i <= 4 ? i : -1);
            t.is("STEP " + i, o.step(11, i, 1), i <= 4 ? i : -1);
        }
        t.is("of another none", o.bound(10, 1, 1) + o.mean(10, 1, 100) + o.step(10, 1, 1), 3);
        t.of("Terms 3", "how many cycles it BEARS: 1 to 10000000, one that divides 720720000000");
        long product = 720720000000L;
        int[] bears = {1, 2, 3, 9, 27, 1024, 2048, 78125, 390625, 7, 49, 11, 121, 13, 169, 17, 720720, 9999990, 10000000,
            9984000, 10010000, 0, -1, -2, MIN, MAX};
        for (int b : bears) {
            boolean good = b >= 1 && b <= 10000000 && product % b == 0;
            LoadCounter x = Sentences.strain(0, 9);
            t.is("BEARS " + b, x.bound(0, 9, b), good ? 1 : -1);
            t.is("a HALF under it", x.part(0, good ? 0 : 6), good ? LIFE / b / 2 : LIFE / 2);
        }
    }

    private static long partOfHalf(int range, int sum, int mean, int percentage, int bound) {
        LoadCounter o = Sentences.strain((sum - range) / 2, (sum + range) / 2);
        o.mean(0, mean, percentage);
        o.bound(0, bound, 5);
        return o.part(0, 0);
    }

    private static void effect() {
        t.of("Terms 3", "the percentage of the first MEAN (by their numbers) that is not below its MEAN");
        long half = LIFE / 10;
        t.is("MEAN just as it", partOfHalf(10, 20, 20, 50, 5), half);
        t.is("MEAN above it", partOfHalf(10, 20, 21, 50, 5), half);
        t.is("MEAN below it (100 without one)", partOfHalf(10, 20, 19, 50, 5), 0);
        t.is("MEAN below it: 10 by 100", partOfHalf(10, 20, 19, 50, 10), half);
        t.is("the greatest", partOfHalf(10, 20, MAX, 50, 5), half);
        t.is("the least", partOfHalf(10, 20, MIN, 50, 5), 0);
        t.is("a sum below 0", partOfHalf(10, -20, -20, 50, 5), half);
        LoadCounter o = Sentences.strain(5, 15);
        o.bound(0, 20, 5);
        o.mean(0, 19, 300);
        o.mean(0, 20, 200);
        o.mean(0, 21, 400);
        t.is("the first of them", o.part(0, 0), half);
        t.of("Terms 3", "divided by 100, upwards");
        t.is("10 by 10: 1", partOfHalf(10, 20, 20, 10, 1), half);
        t.is("12 by 10: 2", partOfHalf(12, 20, 20, 10, 1), 0);
        t.is("12 by 10: 2, no more", partOfHalf(12, 20, 20, 10, 2), half);
        t.is("1 by 101: 2", partOfHalf(1, 21, 21, 101, 1), 0);
        t.is("1 by 101: 2, no more", partOfHalf(1, 21, 21, 101, 2), half);
        t.is("2 by 101: 3", partOfHalf(2, 20, 20, 101, 2), 0);
        t.is("2 by 101: 3, no more", partOfHalf(2, 20, 20, 101, 3), half);
        t.is("2 by 99: 2", partOfHalf(2, 20, 20, 99, 1), 0);
        t.is("2 by 99: 2, no more", partOfHalf(2, 20, 20, 99, 2), half);
        t.is("the greatest, 8000000", partOfHalf(2000000, 0, 0, 400, 8000000), half);
        t.is("no more", partOfHalf(2000000, 0, 0, 400, 7999999), 0);
        t.of("Terms 3", "It BEARS what the first BOUND tells that is not below (1 without one)");
        LoadCounter x = Sentences.strain(0, 10);
        t.is("without one", x.part(0, 6), LIFE / 2);
        x.bound(0, 9, 7);
        t.is("below", x.part(0, 6), LIFE / 2);
        x.bound(0, 10, 8);
        t.is("just as it", x.part(0, 1), LIFE / 16);
        x.bound(0, 11, 9);
        t.is("the first of them", x.part(0, 1), LIFE / 16);
        t.is("none of another", x.part(0, 0) + x.part(0, 2) + x.part(0, 6), 0);
    }

    private static void whatCounts() {
        t.of("Terms 3", "of the ROW of the GAUGE in its PLACE from the BEGINNING on (without a GAUGE nothing)");
        LoadCounter o = Sentences.strain(0, 9, BEYOND, 0);
        o.mend(0);
        t.is("nothing behind the BEGINNING", o.damage(0, 1, 0), 0);
        Sentences.load(o, 0, 7);
        t.is("one READING", o.damage(0, 1, 0), 0);
        Sentences.load(o, 0, 8, BEYOND);
        t.is("two, a GAP", o.damage(0, 1, 0), 3);
        o.plug(0);
        t.is("a PLUG", o.damage(0, 1, 0), 0);
        o.take(0);
        t.is("nothing", o.damage(0, 1, 0), 0);
        LoadCounter step = new LoadCounter();
        step.put(0, 1, 5, 0);
        step.detail(0, 0);
        Sentences.load(step, 0, 0, 5);
        step.mend(0);
        Sentences.load(step, 0, 3, 9, 9);
        t.is("of a Step the first one from there", step.damage(0, 0, 1), 2);
        t.of("Terms 3", "of those whose EFFECT is below LIMIT only such as come behind one that is not");
        LoadCounter x = Sentences.strain(0, 9, 5, 6, 5, 8, 0);
        t.alike("CYCLES of 1 and 3, HALVES of 9 and 9", new int[] {x.row(0, 5), x.cycle(0, 0, 5), x.cycle(0, 1, 5),
            x.row(0, 6)}, 2, 1, 3, 3);
        t.is("LIMIT 0", x.part(0, 6), 3 * LIFE);
        x.limit(0, 1);
        t.is("LIMIT 1: none is below", x.part(0, 6), 3 * LIFE);
        x.limit(0, 2);
        t.is("LIMIT 2: the first is", x.part(0, 6), 2 * LIFE);
        x.limit(0, 3);
        t.is("LIMIT 3", x.part(0, 6), 2 * LIFE);
        x.limit(0, 4);
        t.is("LIMIT 4: HALVES are behind the CYCLES", x.part(0, 6), LIFE);
        x.limit(0, 9);
        t.is("LIMIT 9", x.part(0, 6), LIFE);
        x.limit(0, 10);
        t.is("LIMIT 10", x.part(0, 6), 0);
        LoadCounter y = Sentences.strain(0, 9, 5, 8, 5, 6, 5, 6, 0);
        y.limit(0, 3);
        t.is("two below behind one", y.part(0, 6), 4 * LIFE);
    }

    private static void leastAndMost() {
        t.of("Terms 3", "A CYCLE uses 1 / BEARS, a HALF half of that");
        LoadCounter o = Sentences.strain(0, 9, 8, 9);
        o.bound(0, 1, 10000000);
        o.bound(0, 9, 3);
        t.is("a CYCLE", o.part(0, 0), LIFE / 10000000);
        t.is("a HALF", o.part(0, 1), LIFE / 6);
        t.of("Terms 3", "MOST: LEAST, and for each GAP from the BEGINNING on 1 / what WORST BEARS");
        LoadCounter x = Sentences.strain(BEYOND, BEYOND);
        x.bound(0, 10, 4);
        x.bound(0, 20, 5);
        int[] worst = {0, 10, 11, 20, 21, 4000000};
        int[] above = {1, 1, 2, 2, 2, 2};
        int[] below = {2, 2, 5, 5, 1, 1};
        for (int i = 0; i < worst.length; i++) {
            x.worst(0, worst[i]);
            t.is("above of " + worst[i], x.damage(0, 1, 0), above[i]);
            t.is("below of " + worst[i], x.damage(0, 1, 1), below[i]);
        }
        t.is("LEAST", x.damage(0, 0, 0), 0);
        x.mend(0);
        t.is("no GAP from the BEGINNING on", x.damage(0, 1, 0), 0);
        int[] gaps = new int[400];
        Arrays.fill(gaps, BEYOND);
        LoadCounter y = Sentences.strain(gaps);
        t.is("400 GAPS", y.damage(0, 1, 0), 400);
        y.put(0, 3, 0, 399);
        Sentences.load(y, 0, gaps);
        t.is("what a Dumb has not is no GAP", y.damage(0, 1, 0), 0);
        t.of("Terms 3", "The life is OVER, if LEAST is 1 or more");
        LoadCounter z = Sentences.strain(0, 9, 0);
        t.is("just 1", z.damage(0, 0, 2), 1);
        z.bound(0, 9, 10000000);
        t.is("less", z.damage(0, 0, 2), 0);
        LoadCounter u = Sentences.strain(0, 9, 8, 9, 8, 9);
        u.bound(0, 1, 4);
        t.is("2/4 and 1/2", u.damage(0, 0, 2), 1);
        u.tear(0, 4, 4);
        t.is("1/4 and 1/2", u.damage(0, 0, 2), 0);
        nearlyOver();
    }

    /** HALVES alone, wider and wider: so many under each BOUND, in their order. */
    private static LoadCounter worn(int[] bears, int[] halves) {
        int all = 0;
        for (int n : halves) {
            all += n;
        }
        LoadCounter o = Sentences.strain(Sentences.outwards(all + 1));
        int behind = 0;
        for (int i = 0; i < bears.length; i++) {
            behind += halves[i];
            o.bound(0, 2 * behind - 1, bears[i]);
        }
        return o;
    }

    private static void nearlyOver() {
        int[] bears = {10000000, 9225216, 2559375, 1056000, 1408, 21};
        LoadCounter less = worn(bears, new int[] {17, 123, 19, 12, 67, 41});
        t.is("less by 1 / 1441440000000, above", less.damage(0, 0, 0), LIFE - 1);
        t.is("less by 1 / 1441440000000, below", less.damage(0, 0, 1), LIFE);
        t.is("is not over", less.damage(0, 0, 2), 0);
        t.is("is over on the next day", less.left(0, 1), 1);
        t.is("is over on the next day of 100000", less.left(0, 100000), 1);
        LoadCounter more = worn(bears, new int[] {33, 97, 10, 17, 67, 41});
        t.is("more by 1 / 1441440000000, above", more.damage(0, 0, 0), LIFE + 1);
        t.is("more by 1 / 1441440000000, below", more.damage(0, 0, 1), LIFE);
        t.is("is over", more.damage(0, 0, 2), 1);
        t.is("is over now", more.left(0, 100000), 0);
        less.worst(0, 1);
        less.tear(0, 0, 0);
        t.is("with a GAP for a HALF, LEAST", less.damage(0, 0, 0) * (LIFE / less.damage(0, 0, 1)), LIFE - 1 - LIFE / 20000000);
        t.is("and MOST", less.damage(0, 1, 0) * (LIFE / less.damage(0, 1, 1)), LIFE - 1 + LIFE / 20000000);
        t.is("MOST is over", less.damage(0, 1, 2), 1);
    }

    private static void cracks() {
        t.of("Terms 3", "each CYCLE, by number, whose EFFECT is above THRESHOLD");
        LoadCounter o = Sentences.strain(0, 9, 5, 7, 0, 10);
        t.alike("CYCLES of 2 and 9", new int[] {o.row(0, 5), o.cycle(0, 0, 5), o.cycle(0, 1, 5)}, 2, 2, 9);
        o.step(0, 1000000, 1);
        int[] thresholds = {0, 1, 2, 8, 9, 4000000};
        int[] lengths = {5, 5, 4, 4, 3, 3};
        for (int i = 0; i < thresholds.length; i++) {
            o.crack(0, 3, thresholds[i]);
            t.is("THRESHOLD " + thresholds[i], o.length(0), lengths[i]);
        }
        LoadCounter h = Sentences.strain(0, 9);
        h.step(0, 10, 1);
        h.crack(0, 3, 0);
        t.is("a HALF makes it no longer", h.length(0), 3);
        t.of("Terms 3", "the first STEP tells that is not below its length then");
        int[] starts = {0, 4, 5, 6, 7, 8, 1000000};
        int[] due = {1, 5, 6, 16, 17, 18, 1000010};
        for (int i = 0; i < starts.length; i++) {
            LoadCounter x = Sentences.strain(0, 9, 0, 9);
            x.step(0, 5, 1);
            x.step(0, 7, 10);
            x.crack(0, starts[i], 0);
            t.is("from " + starts[i] + " (by the last STEP, if there is none)", x.length(0), due[i]);
        }
        t.of("Terms 3", "by 0 without STEPS");
        LoadCounter y = Sentences.strain(0, 9, 0, 9);
        y.crack(0, 7, 0);
        t.is("from 7", y.length(0), 7);
        y.step(0, 0, 0);
        t.is("by a STEP of 0", y.length(0), 7);
        t.of("Terms 3", "its length then");
        LoadCounter z = Sentences.strain(Sentences.zigzag(400));
        z.step(0, 100, 1);
        z.step(0, 110, 2);
        z.crack(0, 0, 0);
        t.is("101 by 1, 5 by 2 to 111, 93 more by 2", z.length(0), 101 + 98 * 2);
        LoadCounter w = Sentences.strain(Sentences.zigzag(400));
        w.step(0, 0, 1000000);
        w.crack(0, 1000000, 0);
        t.is("the longest there can be", w.length(0), 200000000);
        t.of("Terms 3", "at most 1000000000");
        t.is("800 more bring it there", w.due(0, 1, 0, 1000000000, 1), 798);
        t.is("nothing brings it further", w.due(0, 1, 0, 1000000001, 1), -1);
        w.mend(0);
        t.is("no CRACK", w.due(0, 1, 0, 1000000000, 1), -1);
    }

    private static void throwing() {
        t.of("Terms 4", "A call that throws changes nothing");
        String state = Sentences.stateOf(Sentences.busy());
        Sentences.Call[] calls = {x -> x.span(0, 10), x -> x.turn(0, 0, 9), x -> x.cycle(0, 2, 0), x -> x.damage(12, 0, 0),
            x -> x.part(0, 3), x -> x.parts(12, 0)};
        for (int i = 0; i < calls.length; i++) {
            LoadCounter o = Sentences.busy();
            t.is("call " + i, Sentences.answer(calls[i], o), Sentences.THROWN);
            t.is("an ACT can be undone still", o.count(3), 1);
            t.same("all is as it was", Sentences.stateOf(o), state);
        }
    }

    public static void main(String[] args) {
        board();
        readings();
        floats();
        bytesAtTheEnd();
        dumb();
        sumHasAsManySpans();
        sumIs();
        rows();
        turns();
        pile();
        rangeAndMean();
        details();
        effect();
        whatCounts();
        leastAndMost();
        cracks();
        throwing();
        t.end();
    }
}
