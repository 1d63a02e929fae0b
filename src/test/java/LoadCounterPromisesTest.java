import java.util.NoSuchElementException;
import java.util.function.LongSupplier;

/** For each promise: ordinary inputs, the edges that the document names, and wrong inputs. */
public final class LoadCounterPromisesTest {
    private static final int GAP = 2000000;
    private static final int NOTHING = 3000000;
    private static final long THROWN = Long.MIN_VALUE;
    private static final long LIFE = 1441440000000L;

    private static int passed = 0;
    private static int failed = 0;
    private static int promise = 0;

    private static void is(String what, long got, long due) {
        if (got == due) {
            passed++;
        } else {
            failed++;
            System.out.println("promise " + promise + ": " + what + " answered " + got + ", due is " + due);
        }
    }

    private static void is(String what, boolean got, boolean due) {
        is(what, got ? 1 : 0, due ? 1 : 0);
    }

    private static void throwsIt(String what, LongSupplier call) {
        long got;
        try {
            got = call.getAsLong();
        } catch (NoSuchElementException e) {
            got = THROWN;
        }
        is(what, got, THROWN);
    }

    /** Feeds and reads these numbers as ints. */
    private static void load(LoadCounter o, int p, int... numbers) {
        o.end(0);
        int[] x = java.util.Arrays.copyOf(numbers, (numbers.length + 4) / 5 * 5);
        int left = numbers.length;
        for (int i = 0; i < x.length; i += 5) {
            o.feed(x[i], x[i + 1], x[i + 2], x[i + 3], x[i + 4]);
            left -= 5;
            if (i % 100 == 95 || left <= 0) {
                o.end(o.count(0) + 4 * Math.min(0, left));
                o.read(p, 2);
            }
        }
    }

    private static LoadCounter strain(int... numbers) {
        LoadCounter o = new LoadCounter();
        o.put(0, 0, 0, 0);
        load(o, 0, numbers);
        return o;
    }

    private static LoadCounter detailed(int... numbers) {
        LoadCounter o = strain(numbers);
        o.detail(0, 0);
        return o;
    }

    private static void tell(LoadCounter o, int... bytes) {
        o.end(0);
        int[] x = java.util.Arrays.copyOf(bytes, (bytes.length + 19) / 20 * 20);
        for (int i = 0; i < x.length; i += 20) {
            int[] w = new int[5];
            for (int j = 0; j < 20; j++) {
                w[j / 4] |= (x[i + j] & 255) << (24 - 8 * (j % 4));
            }
            o.feed(w[0], w[1], w[2], w[3], w[4]);
        }
        o.end(bytes.length);
    }

    private static void newObject() {
        LoadCounter o = new LoadCounter();
        for (int p = 0; p < 12; p++) {
            is("kind", o.kind(p), -1);
            is("length", o.length(p), -1);
            is("damage", o.damage(p, 1, 0), 0);
            throwsIt("part", () -> o.part(0, 0));
        }
        for (int what = 0; what <= 4; what++) {
            is("count " + what, o.count(what), 0);
        }
        is("undo", o.undo(), false);
        is("again", o.again(), false);
        o.put(0, 0, 0, 0);
        is("another has none of it", new LoadCounter().count(1), 0);
        is("NONE", LoadCounter.NONE, -1);
    }

    private static void feed() {
        LoadCounter o = new LoadCounter();
        is("first", o.feed(0x01020304, -1, 0, 0, 0x7f000080), 20);
        is("second", o.feed(1, 2, 3, 4, 5), 40);
        o.put(0, 0, 0, 0);
        is("bytes", o.read(0, 0), 40);
        is("highest first", o.span(0, 0), 1);
        is("lowest last", o.span(0, 3), 4);
        is("with a sign", o.span(0, 4), -1);
        is("last number", o.span(0, 16), 127);
        is("last byte", o.span(0, 19), -128);
        for (int i = 1; i <= 20; i++) {
            is("feed " + i, o.feed(0, 0, 0, 0, 0), 20 * i);
        }
        is("too much", o.feed(0, 0, 0, 0, 0), -1);
        is("none came", o.count(0), 400);
        o.end(381);
        is("by one too much", o.feed(0, 0, 0, 0, 0), -1);
        o.end(380);
        is("just so", o.feed(0, 0, 0, 0, 0), 400);
    }

    private static void end() {
        LoadCounter o = new LoadCounter();
        is("of nothing", o.end(0), true);
        is("too many", o.end(1), false);
        o.feed(0x01020304, 0, 0, 0, 0);
        is("below 0", o.end(-1), false);
        is("21", o.end(21), false);
        is("stays", o.count(0), 20);
        is("20", o.end(20), true);
        is("3", o.end(3), true);
        is("less", o.count(0), 3);
        o.feed(0x05000000, 0, 0, 0, 0);
        o.put(0, 0, 0, 0);
        o.read(0, 0);
        is("the first ones stay", o.span(0, 2), 3);
        is("new ones come behind them", o.span(0, 3), 5);
    }

    private static void put() {
        LoadCounter o = new LoadCounter();
        for (int kind = 0; kind <= 4; kind++) {
            is("kind " + kind, o.put(kind, kind, 1, 1), true);
            is("is there", o.kind(kind), kind);
            is("without spans", o.row(kind, 0), 0);
        }
        is("place 11", o.put(11, 0, -5, -5), true);
        is("place 12", o.put(12, 0, 0, 0), false);
        is("place -1", o.put(-1, 0, 0, 0), false);
        is("kind 5", o.put(5, 5, 0, 0), false);
        is("kind -1", o.put(5, -1, 0, 0), false);
        is("size 0", o.put(5, 1, 0, 0), false);
        is("size 100001", o.put(5, 1, 100001, 0), false);
        is("size 100000", o.put(5, 1, 100000, -9), true);
        is("from below 0", o.put(6, 3, -1, 0), false);
        is("from above to", o.put(6, 3, 5, 4), false);
        is("to 400", o.put(6, 3, 5, 400), false);
        is("to 399", o.put(6, 3, 399, 399), true);
        is("sum of -1", o.put(7, 4, -1, 0), false);
        is("sum of 12", o.put(7, 4, 0, 12), false);
        is("12 first", o.put(7, 4, 12, 0), false);
        is("-1 behind", o.put(7, 4, 0, -1), false);
        is("sum of one", o.put(7, 4, 11, 11), true);
        is("refused: nothing there", o.kind(8), -1);
        load(o, 0, 1, 2, 3);
        is("a new one is without spans", o.put(0, 0, 0, 0), true);
        is("spans", o.row(0, 0), 0);
        o.plug(0);
        is("over a plug", o.put(0, 2, 0, 0), true);
        is("kind", o.kind(0), 2);
    }

    private static void plug() {
        LoadCounter o = strain(1, 2);
        is("over a gauge", o.plug(0), true);
        is("over nothing", o.plug(11), true);
        is("over a plug", o.plug(11), true);
        is("12", o.plug(12), false);
        is("-1", o.plug(-1), false);
        is("kind", o.kind(0), 5);
        is("no gauge", o.row(0, 0), -1);
        is("plugs", o.count(2), 2);
    }

    private static void take() {
        LoadCounter o = strain(1, 2);
        o.plug(1);
        is("a gauge", o.take(0), true);
        is("nothing", o.take(0), false);
        is("a plug", o.take(1), true);
        is("kind", o.kind(1), -1);
        is("12", o.take(12), false);
        is("-1", o.take(-1), false);
        o.put(0, 0, 0, 0);
        is("its spans went with it", o.row(0, 0), 0);
    }

    private static void kind() {
        LoadCounter o = new LoadCounter();
        is("-1", o.kind(-1), -2);
        is("12", o.kind(12), -2);
        is("far", o.kind(Integer.MAX_VALUE), -2);
        is("nothing", o.kind(11), -1);
        o.put(3, 4, 0, 0);
        is("sum", o.kind(3), 4);
        o.plug(3);
        is("plug", o.kind(3), 5);
    }

    private static void readFloats(LoadCounter o, float... numbers) {
        int[] x = new int[5];
        for (int i = 0; i < numbers.length; i++) {
            x[i] = Float.floatToRawIntBits(numbers[i]);
        }
        o.feed(x[0], x[1], x[2], x[3], x[4]);
        o.end(4 * numbers.length);
        o.read(0, 4);
    }

    private static void isFloat(float number, int due) {
        LoadCounter o = strain();
        readFloats(o, number);
        is("float " + number, o.span(0, 0), due);
    }

    private static void isDouble(double number, int due) {
        LoadCounter o = strain();
        long bits = Double.doubleToRawLongBits(number);
        o.feed((int) (bits >> 32), (int) bits, 0, 0, 0);
        o.end(8);
        o.read(0, 5);
        is("double " + number, o.span(0, 0), due);
    }

    private static void isLong(long number, int due) {
        LoadCounter o = strain();
        o.feed((int) (number >> 32), (int) number, 0, 0, 0);
        o.end(8);
        o.read(0, 3);
        is("long " + number, o.span(0, 0), due);
    }

    private static void readFloatingPoint() {
        float[] gaps = {Float.NaN, Float.POSITIVE_INFINITY, Float.NEGATIVE_INFINITY, Float.MAX_VALUE,
            1000001f, -1000001f, 1048576f, 2097152f};
        for (float x : gaps) {
            isFloat(x, GAP);
            isDouble(x, GAP);
        }
        float[] cuts = {0f, -0f, 0.99f, -0.99f, 1f, -1.5f, 2.75f, 1000000f, -1000000f, 1000000.9375f,
            -1000000.5f, Float.MIN_VALUE, -Float.MIN_NORMAL, 524288.5f, 524287.97f};
        for (float x : cuts) {
            isFloat(x, (int) x);
            isDouble(x, (int) x);
        }
        isDouble(Double.MIN_VALUE, 0);
        isDouble(0.9999999999999999, 0);
        isDouble(1000000.9999999999, 1000000);
        isDouble(-1000000.9999999999, -1000000);
        isDouble(Double.MAX_VALUE, GAP);
        isDouble(4294967296.0, GAP);
        isDouble(Double.longBitsToDouble(0x7ff0000000000001L), GAP);
        isDouble(-123456.789, -123456);
    }

    private static void read() {
        readFloatingPoint();
        isLong(1000000, 1000000);
        isLong(1000001, GAP);
        isLong(-1000000, -1000000);
        isLong(-1000001, GAP);
        isLong(4294967301L, GAP);
        isLong(Long.MIN_VALUE, GAP);
        isLong(-1, -1);
        LoadCounter o = strain();
        o.feed(0x7fff8000, 0xffff0001, 0, 0, 0);
        o.end(9);
        is("shorts and one byte more", o.read(0, 1), 5);
        is("greatest", o.span(0, 0), 32767);
        is("least", o.span(0, 1), -32768);
        is("-1", o.span(0, 2), -1);
        is("1", o.span(0, 3), 1);
        is("too few bytes", o.span(0, 4), GAP);
        is("the tape is empty then", o.count(0), 0);
        is("an empty tape", o.read(0, 3), 5);
        for (int width = -1; width <= 6; width += 7) {
            o.feed(1, 1, 1, 1, 1);
            is("width " + width, o.read(0, width), -2);
            is("empty, if refused", o.count(0), 0);
        }
        o.put(1, 4, 0, 0);
        o.plug(2);
        for (int p : new int[] {-1, 1, 2, 3, 12}) {
            o.feed(1, 1, 1, 1, 1);
            is("no gauge to feed at " + p, o.read(p, 9), -1);
            is("empty, if refused", o.count(0), 0);
        }
        readUpTo400();
        readIntoDumb();
    }

    private static void readUpTo400() {
        LoadCounter o = strain();
        for (int i = 0; i < 20; i++) {
            o.feed(i, 0, 0, 0, 0);
        }
        o.end(399);
        is("399", o.read(0, 0), 399);
        o.feed(7, 0, 0, 0, 0);
        o.end(5);
        is("two too many", o.read(0, 2), -3);
        is("empty, if refused", o.count(0), 0);
        is("none is fed", o.row(0, 0), 399);
        o.feed(7, 0, 0, 0, 0);
        o.end(4);
        is("the last one", o.read(0, 2), 400);
        is("7", o.span(0, 399), 7);
        is("none more, and all is well", o.read(0, 2), 400);
        o.feed(7, 0, 0, 0, 0);
        o.end(1);
        is("401", o.read(0, 5), -3);
    }

    private static void readIntoDumb() {
        LoadCounter o = new LoadCounter();
        o.put(0, 3, 1, 2);
        load(o, 0, 5, 6, 2000000, 7);
        is("ahead", o.span(0, 0), 5);
        is("dumb from", o.span(0, 1), NOTHING);
        is("dumb to, a gap fed", o.span(0, 2), NOTHING);
        is("behind", o.span(0, 3), 7);
        is("spans", o.row(0, 0), 4);
        is("gaps", o.row(0, 1), 0);
        is("readings", o.row(0, 2), 2);
    }

    private static void tear() {
        LoadCounter o = strain(1, 2, 9999999, 4, 5);
        is("from above to", o.tear(0, 2, 1), -1);
        is("from -1", o.tear(0, -1, 1), -1);
        is("to 5", o.tear(0, 1, 5), -1);
        is("beyond", o.tear(0, 5, 5), -1);
        is("refused", o.row(0, 1), 1);
        is("a gap between", o.tear(0, 1, 3), 2);
        is("gaps", o.row(0, 1), 3);
        is("once more", o.tear(0, 1, 3), 0);
        is("0 readings went, but it was done", o.undo(), true);
        is("first to last", o.tear(0, 0, 4), 2);
        is("a gap", o.span(0, 4), GAP);
        o.put(1, 4, 0, 0);
        o.plug(2);
        is("a sum", o.tear(1, 0, 0), -1);
        is("a plug", o.tear(2, 0, 0), -1);
        is("nothing", o.tear(3, 0, 0), -1);
        is("no place", o.tear(12, 0, 0), -1);
        o.put(4, 3, 1, 1);
        load(o, 4, 1, 2, 3);
        is("of a dumb", o.tear(4, 0, 2), 2);
        is("has nothing still", o.span(4, 1), NOTHING);
        is("spans stay", o.row(4, 0), 3);
    }

    private static void fill() {
        LoadCounter o = strain(1, 9999999, 9999999, 9999999, 5);
        is("a reading", o.fill(0, 0, 3), false);
        is("-1", o.fill(0, -1, 3), false);
        is("5", o.fill(0, 5, 3), false);
        is("beyond", o.fill(0, 1, 1000001), false);
        is("below", o.fill(0, 1, -1000001), false);
        is("most", o.fill(0, 1, 1000000), true);
        is("least", o.fill(0, 2, -1000000), true);
        is("there", o.span(0, 1), 1000000);
        is("there", o.span(0, 2), -1000000);
        is("no gap any more", o.fill(0, 1, 4), false);
        is("gaps", o.row(0, 1), 1);
        o.put(1, 4, 0, 0);
        is("a gap of a sum", o.span(1, 3), GAP);
        is("a sum", o.fill(1, 3, 3), false);
        is("no gauge", o.fill(2, 0, 3), false);
        is("no place", o.fill(12, 0, 3), false);
        o.put(4, 3, 0, 0);
        load(o, 4, 9999999, 9999999);
        is("nothing is no gap", o.fill(4, 0, 3), false);
        is("a gap of a dumb", o.fill(4, 1, 3), true);
    }

    private static void row() {
        LoadCounter o = strain(0, 10, 3, 3, 9999999, 7, -4, 12, 5, 20, -9);
        int[] due = {11, 1, 10, 10, 9, 2, 5};
        for (int what = 0; what < 7; what++) {
            is("strain " + what, o.row(0, what), due[what]);
        }
        is("what 7", o.row(0, 7), -1);
        is("what -1", o.row(0, -1), -1);
        o.plug(1);
        for (int p : new int[] {-1, 1, 2, 12}) {
            is("no gauge", o.row(p, 0), -1);
        }
        o.put(3, 2, 0, 0);
        load(o, 3, 1, 1, 2, 2, 3, 3, 1, 1);
        is("a peak's row is turns", o.row(3, 3), 3);
        is("its readings", o.row(3, 2), 8);
        is("turns of these", o.row(3, 4), 3);
        rowOfStep();
        rowOfSum();
        int[] counts = {0, 1, 1, 2};
        int[][] rows = {{}, {5}, {5, 5, 5}, {5, 5, 6, 7, 7}};
        for (int i = 0; i < rows.length; i++) {
            is("turns of few", strain(rows[i]).row(0, 4), counts[i]);
        }
    }

    private static void rowOfStep() {
        LoadCounter o = new LoadCounter();
        o.put(0, 1, 5, 0);
        load(o, 0, 0, 4, 5, 9, 1, 0, -4, -5);
        is("of 0 4 5 9 1 0 -4 -5 by 5", o.row(0, 3), 4);
        is("all are readings", o.row(0, 2), 8);
        is("0", o.turn(0, 0, 0), 0);
        is("5", o.turn(0, 0, 1), 5);
        is("-5, from the one kept last", o.turn(0, 0, 2), -5);
        is("turns", o.row(0, 4), 3);
    }

    private static void rowOfSum() {
        LoadCounter o = strain(1, 2, 9999999, 600000, -600000);
        o.put(1, 3, 1, 2);
        load(o, 1, 10, 20, 30, 500000, -400000, 7);
        o.put(2, 4, 0, 1);
        is("spans of the lesser", o.row(2, 0), 5);
        is("both", o.span(2, 0), 11);
        is("one has nothing", o.span(2, 1), NOTHING);
        is("a gap and nothing", o.span(2, 2), GAP);
        is("beyond", o.span(2, 3), GAP);
        is("just not beyond", o.span(2, 4), -1000000);
        is("gaps", o.row(2, 1), 2);
        is("readings", o.row(2, 2), 2);
        o.put(3, 4, 2, 0);
        is("of a sum", o.row(3, 0), 0);
        o.put(4, 4, 4, 4);
        is("of itself", o.row(4, 0), 0);
        o.put(5, 4, 0, 9);
        is("of nothing", o.row(5, 0), 0);
        o.put(6, 4, 1, 1);
        is("of one with itself", o.span(6, 0), 20);
        o.put(7, 1, 100000, 0);
        load(o, 7, 1, 2, 3, 4, 5);
        o.put(8, 4, 7, 0);
        is("a step's readings, not its row", o.span(8, 1), 4);
    }

    private static void span() {
        LoadCounter o = new LoadCounter();
        o.put(0, 3, 1, 1);
        load(o, 0, -7, 8, 9999999);
        is("reading", o.span(0, 0), -7);
        is("nothing", o.span(0, 1), NOTHING);
        is("gap", o.span(0, 2), GAP);
        throwsIt("-1", () -> o.span(0, -1));
        throwsIt("3", () -> o.span(0, 3));
        o.plug(1);
        for (int p : new int[] {-1, 1, 2, 12}) {
            throwsIt("no gauge", () -> o.span(p, 0));
        }
        o.put(3, 4, 0, 2);
        throwsIt("a sum without spans", () -> o.span(3, 0));
    }

    private static void turn() {
        LoadCounter o = strain(0, 10, 3, 7, 7, -4, 12, 5, 20, -9);
        int[] turns = {0, 10, 3, 7, -4, 12, 5, 20, -9};
        int[] rest = {0, 10, -4, 20, -9};
        for (int k = 0; k < turns.length; k++) {
            is("turn", o.turn(0, 0, k), turns[k]);
        }
        for (int k = 0; k < rest.length; k++) {
            is("rest", o.turn(0, 1, k), rest[k]);
        }
        throwsIt("9", () -> o.turn(0, 0, 9));
        throwsIt("-1", () -> o.turn(0, 0, -1));
        throwsIt("5 of the rest", () -> o.turn(0, 1, 5));
        throwsIt("-1 of the rest", () -> o.turn(0, 1, -1));
        throwsIt("sort 2", () -> o.turn(0, 2, 0));
        throwsIt("sort -1", () -> o.turn(0, -1, 0));
        o.plug(1);
        for (int p : new int[] {-1, 1, 2, 12}) {
            throwsIt("no gauge", () -> o.turn(p, 0, 0));
        }
    }

    private static void cycle() {
        LoadCounter o = strain(0, 4, 2, 3, 1, 6, 0, 5, 2, 7);
        int[][] due = {{2, 3, 2, 3, 4, 1, 5}, {4, 1, 1, 4, 5, 3, 5}, {5, 2, 7, 8, 9, 3, 7},
            {6, 0, 5, 6, 9, 6, 6}};
        for (int k = 0; k < due.length; k++) {
            for (int what = 0; what < 7; what++) {
                is("cycle " + k + ", " + what, o.cycle(0, k, what), due[k][what]);
            }
        }
        throwsIt("4", () -> o.cycle(0, 4, 0));
        throwsIt("-1", () -> o.cycle(0, -1, 0));
        throwsIt("what 7", () -> o.cycle(0, 0, 7));
        throwsIt("what -1", () -> o.cycle(0, 0, -1));
        o.plug(1);
        for (int p : new int[] {-1, 1, 2, 12}) {
            throwsIt("no gauge", () -> o.cycle(p, 0, 0));
        }
        is("ends that are alike enclose", strain(0, 5, 0, 5).row(0, 5), 1);
        is("one that sticks out", strain(0, 5, 0, 4).row(0, 5), 0);
        is("the other that sticks out", strain(1, 5, 0, 5).row(0, 5), 0);
    }

    private static void check() {
        LoadCounter o = strain(0, 4, 2, 3, 1, 6, 0, 5, 2, 7);
        int[][] told = {{2, 3, 1, 4, 7, 8, 5, 6}, {6, 5, 8, 7, 4, 1, 3, 2}, {2, 3, 1, 4, 7, 8}, {},
            {2, 3, 1, 4, 7, 8, 5, 6, 5, 6}, {0, 9, 2, 3, 1, 4, 7, 8, 5, 6}, {2, 3, 4, 4, 7, 8, 5, 6},
            {2, 4, 1, 3, 7, 8, 5, 6}, {2, 3, 1, 4, 7, 8, 5, 9}, {2, 3, 1, 4, 7, 8, 5, 6, 9, 9},
            {3, 1, 2, 3, 1, 4}, {2, 3, 1, 4, 7, 8, 5, 6, 9, 0}, {2, 3, 1}, {2, 10}, {255, 1}};
        int[] due = {0, 0, 6, 2, 6, 1, 2, 2, 6, 10, 2, 1, -2, -2, -2};
        for (int i = 0; i < told.length; i++) {
            tell(o, told[i]);
            is("told " + i, o.check(0), due[i]);
            is("the tape is empty then", o.count(0), 0);
        }
        o.plug(1);
        for (int p : new int[] {-1, 1, 2, 12}) {
            tell(o, 1, 2, 3);
            is("no gauge", o.check(p), -1);
            is("the tape is empty then", o.count(0), 0);
        }
        o.put(3, 0, 0, 0);
        is("a row without turns", o.check(3), 0);
        is("no act", o.undo() && o.kind(3) == -1, true);
        checkOfMany();
    }

    /** Outwards all the way: many TURNS, and not one CYCLE. */
    private static int[] outwards(int count) {
        int[] x = new int[count];
        for (int i = 0; i < count; i++) {
            x[i] = i % 2 == 0 ? i : -i;
        }
        return x;
    }

    private static void checkOfMany() {
        LoadCounter o = strain(outwards(256));
        is("256 turns", o.row(0, 4), 256);
        is("nothing told", o.check(0), 0);
        tell(o, 254, 255);
        is("bytes are without a sign", o.check(0), 255);
        o = strain(outwards(257));
        is("257 turns", o.row(0, 4), 257);
        is("too many", o.check(0), -2);
    }

    private static void detail() {
        LoadCounter o = strain(0, 1, 0);
        is("11", o.detail(11, 0), true);
        is("used", o.damage(11, 0, 0), 1);
        is("11 to 11", o.detail(11, 11), true);
        is("nothing there", o.damage(11, 0, 0), 0);
        is("nowhere", o.detail(11, -1), true);
        is("-2", o.detail(11, -2), false);
        is("12", o.detail(11, 12), false);
        is("no detail", o.detail(12, 0), false);
        is("no detail", o.detail(-1, 0), false);
        o.detail(0, 0);
        o.mend(0);
        o.detail(0, -1);
        o.detail(0, 0);
        is("its beginning stays", o.damage(0, 0, 0), 0);
    }

    private static void bound() {
        LoadCounter o = new LoadCounter();
        is("range 0", o.bound(0, 0, 1), -1);
        is("range -1", o.bound(0, -1, 1), -1);
        is("bears 0", o.bound(0, 1, 0), -1);
        is("bears -1", o.bound(0, 1, -1), -1);
        is("bears 17", o.bound(0, 1, 17), -1);
        is("bears 20000000", o.bound(0, 1, 20000000), -1);
        is("bears 10000000", o.bound(0, 1, 10000000), 1);
        is("like range", o.bound(0, 1, 1), -1);
        is("bears 9009", o.bound(0, 2, 9009), 2);
        is("3", o.bound(0, 3, 1), 3);
        is("4", o.bound(0, 4, 1), 4);
        is("5", o.bound(0, 5, 1), 5);
        is("6", o.bound(0, 2147483647, 1), 6);
        is("7", o.bound(1, 7, 1), 1);
        is("no seventh", o.bound(0, 2147483647, 1), -1);
        is("no detail", o.bound(12, 7, 1), -1);
        is("no detail", o.bound(-1, 7, 1), -1);
        is("of a seventh with more", o.bound(2, 1, 1) + o.bound(2, 2, 1) + o.bound(2, 3, 1)
            + o.bound(2, 4, 1) + o.bound(2, 5, 1) + o.bound(2, 6, 1) + o.bound(2, 7, 1), 20);
        LoadCounter x = detailed(0, 5);
        x.bound(0, 4, 2);
        is("not for a greater effect", x.damage(0, 0, 1), 2);
        x.bound(0, 5, 8);
        is("for a like effect, of a half", x.damage(0, 0, 1), 16);
        x.bound(0, 6, 4);
        is("the first one", x.damage(0, 0, 1), 16);
    }

    private static void mean() {
        LoadCounter o = new LoadCounter();
        is("9", o.mean(0, 0, 9), -1);
        is("401", o.mean(0, 0, 401), -1);
        is("any", o.mean(0, -2147483648, 10), 1);
        is("like", o.mean(0, -2147483648, 10), -1);
        is("400", o.mean(0, -5, 400), 2);
        is("below", o.mean(0, -6, 400), -1);
        is("3", o.mean(0, 0, 100), 3);
        is("4", o.mean(0, 1, 100), 4);
        is("no fifth", o.mean(0, 2, 100), -1);
        is("no detail", o.mean(12, 2, 100), -1);
        is("no detail", o.mean(-1, 2, 100), -1);
        LoadCounter x = detailed(1, 4);
        x.bound(0, 3, 2);
        x.bound(0, 4, 4);
        x.bound(0, 6, 5);
        is("without one", x.part(0, 0), LIFE / 4);
        x.mean(0, 4, 300);
        is("below its mean", x.part(0, 0), LIFE / 4);
        x.mean(0, 5, 101);
        is("upwards", x.part(0, 1), LIFE / 8);
        x.undo();
        x.mean(0, 7, 200);
        is("just so", x.part(0, 2), LIFE / 10);
        x.mean(0, 8, 100);
        is("the first one", x.part(0, 2), LIFE / 10);
    }

    private static void limit() {
        LoadCounter o = new LoadCounter();
        is("0", o.limit(11, 0), true);
        is("4000000", o.limit(0, 4000000), true);
        is("4000001", o.limit(0, 4000001), false);
        is("-1", o.limit(0, -1), false);
        is("no detail", o.limit(12, 0), false);
        is("no detail", o.limit(-1, 0), false);
        // Cycles of ranges 1, 3, 1, 3 and 1, then a half of 6 and one of 7.
        LoadCounter x = detailed(3, 4, 3, 6, 3, 4, 3, 6, 3, 4, 3, 9, 2);
        is("cycles", x.row(0, 5), 5);
        int[] ranges = new int[5];
        for (int k = 0; k < 5; k++) {
            ranges[k] = x.cycle(0, k, 5);
        }
        is("ranges", java.util.Arrays.equals(ranges, new int[] {1, 1, 3, 1, 3}), true);
        is("halves", x.row(0, 6), 3);
        x.bound(0, 100, 1);
        is("all", x.part(0, 0), 6 * LIFE);
        x.limit(0, 1);
        is("none is below", x.part(0, 0), 6 * LIFE);
        x.limit(0, 3);
        is("those behind one count, the two ahead do not", x.part(0, 0), 4 * LIFE);
        x.limit(0, 7);
        is("only the last half", x.part(0, 0), LIFE / 2);
        x.limit(0, 8);
        is("none", x.part(0, 0), 0);
    }

    private static void worst() {
        LoadCounter o = new LoadCounter();
        is("0", o.worst(11, 0), true);
        is("4000000", o.worst(0, 4000000), true);
        is("4000001", o.worst(0, 4000001), false);
        is("-1", o.worst(0, -1), false);
        is("no detail", o.worst(12, 0), false);
        is("no detail", o.worst(-1, 0), false);
        LoadCounter x = detailed(9999999, 9999999, 1);
        is("without bounds", x.damage(0, 1, 0), 2);
        x.bound(0, 10, 4);
        x.bound(0, 20, 5);
        x.mean(0, 1000, 400);
        is("0 has the first bound", x.damage(0, 1, 1), 2);
        x.worst(0, 10);
        is("10 too, whatever the means", x.damage(0, 1, 1), 2);
        x.worst(0, 11);
        is("11 has the second", x.damage(0, 1, 1), 5);
        x.worst(0, 21);
        is("21 has none", x.damage(0, 1, 0), 2);
        is("least has no part of it", x.damage(0, 0, 0), 0);
    }

    private static void crack() {
        LoadCounter o = new LoadCounter();
        is("0", o.crack(11, 0, 0), true);
        is("there", o.length(11), 0);
        is("most", o.crack(0, 1000000, 4000000), true);
        is("there", o.length(0), 1000000);
        is("length 1000001", o.crack(0, 1000001, 0), false);
        is("length -1", o.crack(0, -1, 0), false);
        is("threshold 4000001", o.crack(0, 0, 4000001), false);
        is("threshold -1", o.crack(0, 0, -1), false);
        is("stays", o.length(0), 1000000);
        is("another", o.crack(0, 5, 0), true);
        is("what it had goes", o.length(0), 5);
        is("no detail", o.crack(12, 0, 0), false);
        is("no detail", o.crack(-1, 0, 0), false);
    }

    private static void step() {
        LoadCounter o = new LoadCounter();
        is("length -1", o.step(0, -1, 0), -1);
        is("by -1", o.step(0, 0, -1), -1);
        is("by 1000001", o.step(0, 0, 1000001), -1);
        is("first", o.step(0, 0, 1000000), 1);
        is("like", o.step(0, 0, 0), -1);
        is("second", o.step(0, 1, 0), 2);
        is("below", o.step(0, 0, 0), -1);
        is("third", o.step(0, 2, 0), 3);
        is("fourth", o.step(0, 2147483646, 0), 4);
        is("no fifth", o.step(0, 2147483647, 0), -1);
        is("no detail", o.step(12, 0, 0), -1);
        is("no detail", o.step(-1, 0, 0), -1);
    }

    private static void mend() {
        LoadCounter o = detailed(0, 1, 9999999, 0);
        o.crack(0, 5, 0);
        is("its beginning", o.mend(0), 4);
        is("no crack", o.length(0), -1);
        is("least", o.damage(0, 0, 0), 0);
        is("gaps ahead do not count", o.damage(0, 1, 0), 0);
        load(o, 0, 9999999, 7, 8);
        is("from there on", o.damage(0, 0, 1), 2);
        is("gaps behind count", o.damage(0, 1, 0), 3);
        is("later", o.mend(0), 7);
        o.put(0, 0, 0, 0);
        load(o, 0, 1, 2, 3, 4, 5, 6, 7, 8);
        is("another gauge, the same beginning", o.damage(0, 0, 0), 0);
        load(o, 0, 9);
        is("behind it", o.damage(0, 0, 1), 2);
        o.put(1, 4, 0, 0);
        o.detail(1, 1);
        is("a sum", o.mend(1), 9);
        o.detail(1, 5);
        is("without a gauge", o.mend(1), 0);
        o.detail(1, 0);
        is("from 0 on", o.damage(1, 0, 0), 1);
        is("no detail", o.mend(12), -1);
        is("no detail", o.mend(-1), -1);
    }

    private static void damage() {
        LoadCounter o = detailed(0, 10, 3, 7, 7, -4, 12, 5, 20, -9);
        int[][] bounds = {{10, 100}, {25, 10}, {30, 3}};
        for (int[] b : bounds) {
            o.bound(0, b[0], b[1]);
        }
        o.mean(0, 5, 100);
        o.mean(0, 20, 150);
        o.limit(0, 8);
        is("above", o.damage(0, 0, 0), 6);
        is("below", o.damage(0, 0, 1), 5);
        is("over", o.damage(0, 0, 2), 1);
        o.worst(0, 30);
        o.tear(0, 9, 9);
        is("least", o.damage(0, 0, 0) * 10 + o.damage(0, 0, 1), 7 * 10 + 10);
        is("not over", o.damage(0, 0, 2), 0);
        is("most", o.damage(0, 1, 0) * 100 + o.damage(0, 1, 1), 31 * 100 + 30);
        is("over, at most", o.damage(0, 1, 2), 1);
        throwsIt("sort 2", () -> o.damage(0, 2, 0));
        throwsIt("sort -1", () -> o.damage(0, -1, 0));
        throwsIt("what 3", () -> o.damage(0, 0, 3));
        throwsIt("what -1", () -> o.damage(0, 0, -1));
        throwsIt("detail 12", () -> o.damage(12, 0, 0));
        throwsIt("detail -1", () -> o.damage(-1, 0, 0));
        is("nothing is 0 / 1", o.damage(1, 0, 0) * 10 + o.damage(1, 0, 1), 1);
        LoadCounter x = detailed(0, 1, 0);
        is("just 1 is over", x.damage(0, 0, 2), 1);
        is("1 / 1", x.damage(0, 0, 0) * 10 + x.damage(0, 0, 1), 11);
        x.bound(0, 1, 10000000);
        is("fine", x.damage(0, 0, 1), 10000000);
        x.tear(0, 2, 2);
        is("finest", x.damage(0, 0, 1), 20000000);
    }

    private static void part() {
        LoadCounter o = detailed(0, 3, 1, 4, -9);
        o.bound(0, 2, 720720);
        o.bound(0, 8, 11);
        throwsIt("2", () -> o.part(0, 2));
        throwsIt("5", () -> o.part(0, 5));
        throwsIt("7", () -> o.part(0, 7));
        throwsIt("-1", () -> o.part(0, -1));
        throwsIt("detail 12", () -> o.part(12, 6));
        throwsIt("detail -1", () -> o.part(-1, 6));
        is("0: a cycle of 2", o.part(0, 0), 2000000);
        is("1: a half of 4", o.part(0, 1), LIFE / 22);
        is("6: a half of 13", o.part(0, 6), LIFE / 2);
        is("6 of another", o.part(1, 6), 0);
        o.tear(0, 4, 4);
        is("a gap is no part", o.part(0, 6), 0);
    }

    private static void parts() {
        LoadCounter o = detailed(0, 3, 1, 4, -9);
        o.bound(0, 2, 720720);
        o.bound(0, 3, 5);
        o.bound(0, 8, 11);
        is("greatest", o.parts(0, 0), 6);
        is("next", o.parts(0, 1), 2);
        is("least", o.parts(0, 2), 0);
        is("no more", o.parts(0, 3), -1);
        is("-1", o.parts(0, -1), -1);
        is("far", o.parts(0, 2147483647), -1);
        throwsIt("detail 12", () -> o.parts(12, 0));
        throwsIt("detail -1", () -> o.parts(-1, 0));
        is("none", o.parts(1, 0), -1);
        LoadCounter x = detailed(0, 1, -2, 3);
        x.bound(0, 1, 6);
        x.bound(0, 4, 6);
        is("a half of 5 without a bound", x.parts(0, 0), 6);
        is("like ones, the lesser number first", x.parts(0, 1), 0);
        is("like ones, the greater number last", x.parts(0, 2), 1);
        is("no more", x.parts(0, 3), -1);
        LoadCounter y = detailed(0, 1, -2);
        y.bound(0, 1, 6);
        y.bound(0, 4, 6);
        is("of like ones", y.parts(0, 0), 0);
        is("of like ones", y.parts(0, 1), 1);
    }

    private static void left() {
        LoadCounter o = detailed(0, 5);
        is("half in 10", o.left(0, 10), 10);
        o.bound(0, 5, 3);
        is("a sixth in 10", o.left(0, 10), 50);
        is("in 1", o.left(0, 1), 5);
        is("in 100000", o.left(0, 100000), 500000);
        is("0 days", o.left(0, 0), -1);
        is("100001 days", o.left(0, 100001), -1);
        is("-1 days", o.left(0, -1), -1);
        is("no detail", o.left(12, 1), -1);
        is("no detail", o.left(-1, 1), -1);
        is("least is 0", o.left(1, 1), -1);
        LoadCounter x = detailed(0, 5, 0, 4);
        x.bound(0, 4, 10);
        x.bound(0, 5, 4);
        is("1/8 + 1/8 + 1/20 = 3/10 in 1, upwards", x.left(0, 1), 3);
        is("in 3", x.left(0, 3), 7);
        is("0 days behind what is over", detailed(0, 5, 0).left(0, 7), 0);
        LoadCounter y = detailed(0, 1);
        y.bound(0, 1, 10000000);
        is("19999999 times 100", y.left(0, 100), 1999999900);
        is("19999999 times 107", y.left(0, 107), 2139999893);
        is("at most", y.left(0, 108), 2147483647);
        is("at most", y.left(0, 100000), 2147483647);
    }

    private static void length() {
        LoadCounter o = detailed(0, 4, 2, 3, 1, 6, 0, 5, 2, 7);
        is("without one", o.length(0), -1);
        is("no detail", o.length(12), -1);
        is("no detail", o.length(-1), -1);
        o.crack(0, 5, 0);
        is("without steps", o.length(0), 5);
        o.step(0, 6, 2);
        is("all four, by the last step", o.length(0), 13);
        o.step(0, 8, 10);
        is("5, 7, 17, then by the last", o.length(0), 37);
        o.step(0, 17, 100);
        is("5, 7, 17, 117, 217", o.length(0), 217);
        o.crack(0, 5, 1);
        is("three are above 1", o.length(0), 117);
        o.crack(0, 5, 3);
        is("one is above 3", o.length(0), 7);
        o.crack(0, 5, 6);
        is("none is above 6", o.length(0), 5);
        o.limit(0, 4000000);
        o.crack(0, 5, 3);
        is("a limit is nothing to a crack", o.length(0), 7);
        o.mean(0, 6, 50);
        is("6 by half", o.length(0), 5);
        o.detail(0, 7);
        is("without a gauge", o.length(0), 5);
    }

    private static void due() {
        LoadCounter o = new LoadCounter();
        o.step(0, 0, 1);
        is("no crack", o.due(0, 1, 8, 20, 3), -1);
        o.crack(0, 7, 0);
        is("from 1, ahead of 13, by 3", o.due(0, 1, 8, 20, 3), 9);
        is("by 11", o.due(0, 1, 8, 20, 11), 1);
        is("by 12: the day would be ahead of what is seen", o.due(0, 1, 8, 20, 12), -1);
        is("by 12, seen now", o.due(0, 1, 7, 20, 12), 0);
        is("by 13", o.due(0, 1, 7, 20, 13), -1);
        is("5 a day", o.due(0, 5, 8, 20, 1), 1);
        is("it is at end now", o.due(0, 1, 0, 7, 1), -1);
        is("100000 cycles", o.due(0, 1, 0, 100007, 1), 99998);
        is("100001 cycles", o.due(0, 1, 0, 100008, 1), -1);
        is("100000 cycles, 7 a day", o.due(0, 7, 0, 100007, 1), 14284);
        is("n 0", o.due(0, 0, 0, 20, 1), -1);
        is("n 1000", o.due(0, 1000, 0, 10007, 1), 8);
        is("n 1001", o.due(0, 1001, 0, 10007, 1), -1);
        is("every 0", o.due(0, 1, 0, 20, 0), -1);
        is("every 10000", o.due(0, 1, 0, 10008, 10000), 0);
        is("every 10001", o.due(0, 1, 0, 20000, 10001), -1);
        is("seen above end", o.due(0, 1, 21, 20, 1), -1);
        is("seen is end", o.due(0, 1, 20, 20, 1), -1);
        is("seen below 0", o.due(0, 1, -1, 20, 1), -1);
        is("no detail", o.due(12, 1, 0, 20, 1), -1);
        is("no detail", o.due(-1, 1, 0, 20, 1), -1);
        dueBySteps();
    }

    private static void dueBySteps() {
        LoadCounter o = new LoadCounter();
        o.crack(0, 0, 0);
        is("it does not grow", o.due(0, 1, 0, 1, 1), -1);
        o.step(0, 10, 3);
        o.step(0, 30, 9);
        // 0 3 6 9 12 21 30 39 48
        is("end 39: day 7", o.due(0, 1, 0, 39, 1), 5);
        is("end 40: day 8", o.due(0, 1, 0, 40, 1), 6);
        is("seen 13: day 5", o.due(0, 1, 13, 40, 2), 5);
        is("seen 13: day 5, by 3", o.due(0, 1, 13, 40, 3), -1);
        is("3 a day, day 3", o.due(0, 3, 1, 40, 1), 1);
        o.step(0, 38, 0);
        is("the last step stands still from 39 on", o.due(0, 1, 0, 40, 1), -1);
        is("but comes to 39", o.due(0, 1, 0, 39, 1), 5);
        o.step(0, 50, 9);
        is("over a step that stands still", o.due(0, 1, 0, 48, 1), 6);
        LoadCounter x = new LoadCounter();
        x.crack(0, 0, 0);
        x.step(0, 1, 1000000);
        is("at most 1000000000", x.due(0, 1, 0, 1000000000, 1), 998);
        is("never more", x.due(0, 1, 0, 1000000001, 1), -1);
        LoadCounter y = detailed(0, 4, 2, 5);
        y.crack(0, 0, 0);
        y.step(0, 0, 5);
        is("from the length that it has", y.due(0, 1, 5, 20, 1), 1);
        is("now 5", y.length(0), 5);
    }

    private static void undo() {
        LoadCounter o = new LoadCounter();
        is("none", o.undo(), false);
        o.put(0, 0, 0, 0);
        is("put", o.undo() && o.kind(0) == -1, true);
        is("once", o.undo(), false);
        o.put(0, 0, 0, 0);
        load(o, 0, 1, 9999999, 3);
        is("read", o.undo() && o.row(0, 0) == 0, true);
        is("the tape is no part of it", o.count(0), 0);
        load(o, 0, 1, 9999999, 3);
        o.plug(0);
        is("plug", o.undo() && o.span(0, 2) == 3, true);
        o.take(0);
        is("take", o.undo() && o.span(0, 2) == 3, true);
        o.tear(0, 0, 2);
        is("tear", o.undo() && o.span(0, 2) == 3, true);
        o.fill(0, 1, 2);
        is("fill", o.undo() && o.span(0, 1) == GAP, true);
        o.put(0, 2, 0, 0);
        is("put over it", o.undo() && o.row(0, 2) == 2, true);
        undoOfDetails(o);
        undoOfWhatWasNotDone(o);
    }

    private static void undoOfDetails(LoadCounter o) {
        o.detail(0, 0);
        is("detail", o.undo() && o.damage(0, 0, 0) == 0, true);
        o.detail(0, 0);
        o.bound(0, 5, 5);
        is("bound", o.undo() && o.damage(0, 0, 1) == 2, true);
        o.bound(0, 5, 5);
        o.mean(0, 5, 400);
        is("mean", o.undo() && o.damage(0, 0, 1) == 10, true);
        o.limit(0, 50);
        is("limit", o.undo() && o.damage(0, 0, 1) == 10, true);
        o.worst(0, 50);
        is("worst", o.undo() && o.damage(0, 1, 1) == 10, true);
        o.crack(0, 50, 0);
        is("crack", o.undo() && o.length(0) == -1, true);
        o.crack(0, 50, 0);
        o.step(0, 50, 1);
        is("step", o.undo() && o.step(0, 50, 1) == 1, true);
        is("mend", o.mend(0) == 3 && o.undo() && o.length(0) == 50 && o.damage(0, 0, 1) == 10, true);
        is("no more", o.undo(), false);
        is("mend alone was undone", o.step(0, 50, 1), -1);
        o.bound(0, 7, 7);
        o.plug(9);
        is("a place alone", o.undo() && o.kind(9) == -1 && o.part(0, 1) == 0, true);
        o.plug(9);
        o.bound(0, 8, 7);
        is("a detail alone", o.undo() && o.kind(9) == 5 && o.bound(0, 8, 7) == 3, true);
    }

    private static void undoOfWhatWasNotDone(LoadCounter o) {
        o.worst(0, 60);
        o.put(12, 0, 0, 0);
        o.plug(12);
        o.take(7);
        o.read(7, 0);
        o.read(0, 6);
        o.tear(0, 3, 3);
        o.fill(0, 0, 1);
        o.detail(0, 12);
        o.bound(0, 1, 1);
        o.mean(0, 1, 1);
        o.limit(0, -1);
        o.worst(0, -1);
        o.crack(0, -1, 0);
        o.step(0, 0, 0);
        o.mend(12);
        o.image();
        o.feed(0, 0, 0, 0, 0);
        o.end(1);
        o.check(0);
        is("can be undone still", o.count(3), 1);
        is("worst it was", o.undo() && o.damage(0, 1, 1) == 10, true);
        is("then none", o.count(3), 0);
        o.plug(0);
        o.plug(1);
        o.undo();
        is("the latest alone", o.kind(1) * 10 + o.kind(0), -10 + 5);
    }

    private static void image() {
        LoadCounter o = strain(1, 2, 3);
        is("first", o.image(), false);
        is("again", o.image(), true);
        is("an act can be undone still", o.count(3), 1);
        o.plug(0);
        is("the image is of then", o.again() && o.row(0, 0) == 3, true);
        o.plug(0);
        is("made anew", o.image(), true);
        o.take(0);
        is("of then", o.again() && o.kind(0) == 5, true);
    }

    private static void again() {
        LoadCounter o = detailed(0, 5, 1, 9999999);
        is("without one", o.again(), false);
        is("and the act can be undone still", o.count(3), 1);
        o.bound(0, 10, 5);
        o.bound(0, 20, 10);
        o.mean(0, 5, 200);
        o.limit(0, 1);
        o.worst(0, 11);
        o.crack(0, 50, 2);
        o.step(0, 50, 1);
        o.put(11, 1, 7, 0);
        o.image();
        long before = o.damage(0, 0, 1) + 1000 * o.damage(0, 1, 1);
        load(o, 0, 1, 2, 3);
        o.tear(0, 0, 2);
        o.bound(0, 30, 1);
        o.mean(0, 6, 10);
        o.limit(0, 100);
        o.worst(0, 0);
        o.step(0, 60, 1);
        o.mend(0);
        o.detail(0, -1);
        o.take(11);
        o.plug(5);
        o.feed(1, 1, 1, 1, 1);
        is("again", o.again(), true);
        is("none can be undone", o.undo(), false);
        is("the tape is no part of it", o.count(0), 20);
        is("places", o.kind(11) * 100 + o.kind(5) * 10 + o.row(0, 0), 100 - 10 + 4);
        is("wear", o.damage(0, 0, 1) + 1000 * o.damage(0, 1, 1), before);
        is("crack", o.length(0), 50);
        is("bounds", o.bound(0, 30, 1), 3);
        is("means", o.mean(0, 6, 10), 2);
        is("steps", o.step(0, 60, 1), 2);
        is("once more", o.again(), true);
        is("the image did not change", o.bound(0, 30, 1), 3);
    }

    private static void count() {
        LoadCounter o = new LoadCounter();
        o.feed(0, 0, 0, 0, 0);
        o.end(7);
        is("bytes", o.count(0), 7);
        o.put(0, 0, 0, 0);
        o.put(11, 4, 0, 0);
        o.plug(5);
        is("gauges", o.count(1), 2);
        is("plugs", o.count(2), 1);
        is("undo", o.count(3), 1);
        is("image", o.count(4), 0);
        o.image();
        is("image", o.count(4), 1);
        o.undo();
        is("undo", o.count(3), 0);
        is("plugs", o.count(2), 0);
        o.limit(0, 1);
        is("undo of a detail's", o.count(3), 1);
        o.again();
        is("undo", o.count(3), 0);
        is("image stays", o.count(4), 1);
        is("5", o.count(5), -1);
        is("-1", o.count(-1), -1);
    }

    public static void main(String[] args) {
        Runnable[] promises = {
            LoadCounterPromisesTest::newObject, LoadCounterPromisesTest::feed,
            LoadCounterPromisesTest::end, LoadCounterPromisesTest::put,
            LoadCounterPromisesTest::plug, LoadCounterPromisesTest::take,
            LoadCounterPromisesTest::kind, LoadCounterPromisesTest::read,
            LoadCounterPromisesTest::tear, LoadCounterPromisesTest::fill,
            LoadCounterPromisesTest::row, LoadCounterPromisesTest::span,
            LoadCounterPromisesTest::turn, LoadCounterPromisesTest::cycle,
            LoadCounterPromisesTest::check, LoadCounterPromisesTest::detail,
            LoadCounterPromisesTest::bound, LoadCounterPromisesTest::mean,
            LoadCounterPromisesTest::limit, LoadCounterPromisesTest::worst,
            LoadCounterPromisesTest::crack, LoadCounterPromisesTest::step,
            LoadCounterPromisesTest::mend, LoadCounterPromisesTest::damage,
            LoadCounterPromisesTest::part, LoadCounterPromisesTest::parts,
            LoadCounterPromisesTest::left, LoadCounterPromisesTest::length,
            LoadCounterPromisesTest::due, LoadCounterPromisesTest::undo,
            LoadCounterPromisesTest::image, LoadCounterPromisesTest::again,
            LoadCounterPromisesTest::count};
        for (Runnable r : promises) {
            promise++;
            r.run();
        }
        System.out.println(passed + " passed, " + failed + " failed");
        if (failed != 0) {
            System.exit(1);
        }
    }
}
