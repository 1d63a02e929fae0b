import java.util.Arrays;

/**
 * One test for each sentence of the promises that names an edge on the side that is taken, for
 * nothing at all, and for the fullest; what is refused is LoadCounterRefusalsTest's.
 */
public final class LoadCounterEdgesTest {
    private static final int GAP = Sentences.GAP;
    private static final int BEYOND = Sentences.BEYOND;
    private static final int MIN = Sentences.MIN;
    private static final int MAX = Sentences.MAX;
    private static final long LIFE = Sentences.LIFE;

    private static final Sentences t = new Sentences();

    private static long bit(boolean b) {
        return Sentences.bit(b);
    }

    private static void newObject() {
        t.of("Promise 1", "An empty board, DETAILS as told, an empty tape, no IMAGE");
        LoadCounter o = new LoadCounter();
        for (int p = 0; p < 12; p++) {
            t.is("PLACE " + p, o.kind(p), -1);
            for (int sort = 0; sort < 2; sort++) {
                t.is("LEAST or MOST of DETAIL " + p, o.damage(p, sort, 0), 0);
                t.is("in lowest terms", o.damage(p, sort, 1), 1);
                t.is("not over", o.damage(p, sort, 2), 0);
            }
            t.is("no BOUND", Sentences.answer(d -> d.part(0, 0), o), Sentences.THROWN);
            t.is("6 there is", o.part(p, 6), 0);
            t.is("CRACK", o.length(p), -1);
        }
        t.alike("count", new int[] {o.count(0), o.count(1), o.count(2), o.count(3), o.count(4)}, 0, 0, 0, 0, 0);
        t.is("no IMAGE", bit(o.again()), 0);
        t.is("no ACT", bit(o.undo()), 0);
        Sentences.busy();
        t.is("what one office does is nothing to another", new LoadCounter().count(1), 0);
    }

    private static void feedAndEnd() {
        t.of("Promise 2", "Twenty bytes come behind the tape, of each number the highest first: how many it has");
        LoadCounter o = new LoadCounter();
        o.put(0, 0, 0, 0);
        t.is("the first twenty", o.feed(0x01020304, 0x05060708, 0x7f80ff00, MIN, MAX), 20);
        o.read(0, 0);
        t.alike("bytes", Sentences.spans(o, 0), 1, 2, 3, 4, 5, 6, 7, 8, 127, -128, -1, 0, -128, 0, 0, 0, 127, -1, -1, -1);
        t.of("Promise 2", "if it would have more than 400");
        for (int i = 1; i <= 20; i++) {
            t.is("feed " + i, o.feed(i, 0, 0, 0, 0), 20 * i);
        }
        t.is("feed 21", o.feed(9, 9, 9, 9, 9), -1);
        int[] ends = {380, 381, 399, 400};
        int[] due = {400, -1, -1, -1};
        for (int i = 0; i < ends.length; i++) {
            Sentences.tape(o, new int[ends[i]]);
            t.is("feed at " + ends[i], o.feed(0, 0, 0, 0, 9), due[i]);
            t.is("bytes then", o.count(0), due[i] == 400 ? 400 : ends[i]);
        }
        t.of("Promise 3", "The tape has its first n bytes alone: true");
        LoadCounter x = new LoadCounter();
        x.put(0, 0, 0, 0);
        t.is("0 of none", x.end(0));
        t.is("1 of none", bit(x.end(1)), 0);
        Sentences.tape(x, 1, 2, 3, 4);
        t.is("all 4", x.end(4));
        t.is("5 of 4", bit(x.end(5)), 0);
        t.is("3", x.end(3));
        t.is("what went does not come back", bit(x.end(4)), 0);
        x.feed(0x09000000, 0, 0, 0, 0);
        x.end(4);
        x.read(0, 0);
        t.alike("the first ones, then what was fed", Sentences.spans(x, 0), 1, 2, 3, 9);
        Sentences.tape(x, new int[400]);
        t.is("400 of 400", x.end(400));
        t.is("401 of 400", bit(x.end(401)), 0);
        t.is("0 of 400", x.end(0));
        t.is("none", x.count(0), 0);
    }

    private static void putPlugAndTake() {
        t.of("Promise 4", "PLACE p has a new GAUGE without SPANS");
        int[][] puts = {{0, MIN, MAX}, {1, 1, MIN}, {1, 100000, MAX}, {2, MAX, MIN}, {3, 0, 0}, {3, 0, 399}, {3, 399, 399},
            {4, 0, 11}, {4, 11, 0}, {4, 11, 11}};
        for (int p : new int[] {0, 11}) {
            LoadCounter o = Sentences.busy();
            for (int[] x : puts) {
                t.is("put " + Arrays.toString(x), o.put(p, x[0], x[1], x[2]));
                t.is("its kind", o.kind(p), x[0]);
                t.is("its SPANS", o.row(p, 0), 0);
            }
            o.put(p, 0, 0, 0);
            Sentences.load(o, p, 1, 2);
            t.is("with SPANS", o.row(p, 0), 2);
            t.is("a new one of that kind", o.put(p, 0, 0, 0));
            t.is("is without", o.row(p, 0), 0);
            t.is("over a PLUG", o.plug(p) && o.put(p, 2, 0, 0) && o.kind(p) == 2);
        }
        t.of("Promise 5", "PLACE p has a PLUG: true");
        LoadCounter o = Sentences.busy();
        for (int p : new int[] {0, 4, 5, 6, 11}) {
            t.is("plug(" + p + ")", o.plug(p));
            t.is("kind", o.kind(p), 5);
            t.is("PLUGS", o.count(2), p < 5 ? (p == 0 ? 2 : 3) : p == 5 ? 3 : p == 6 ? 4 : 5);
        }
        t.of("Promise 6", "PLACE p has nothing: true; false, if it had nothing");
        for (int p : new int[] {0, 1, 11}) {
            t.is("take(" + p + ")", o.take(p));
            t.is("kind", o.kind(p), -1);
            t.is("once more", bit(o.take(p)), 0);
        }
        o.put(0, 0, 0, 0);
        t.is("its SPANS went with it", o.row(0, 0), 0);
        t.of("Promise 7", "What is in PLACE p: -2 no such PLACE, -1 nothing, 0 to 4 the kind, 5 a PLUG");
        LoadCounter x = Sentences.busy();
        for (int p = -1; p <= 12; p++) {
            t.is("kind(" + p + ")", x.kind(p), new int[] {-2, 0, 1, 2, 3, 4, 5, -1, -1, -1, -1, -1, 0, -2}[p + 1]);
        }
    }

    private static void read() {
        t.of("Promise 8", "how many SPANS it has .. -3: it would have more than 400");
        int[] sizes = {1, 2, 4, 8, 4, 8};
        for (int width = 0; width < 6; width++) {
            int size = sizes[width];
            for (int room = 1; room <= 2; room++) {
                LoadCounter o = new LoadCounter();
                o.put(0, 0, 0, 0);
                Sentences.tape(o, new int[400 - room]);
                t.is("SPANS ahead", o.read(0, 0), 400 - room);
                Sentences.tape(o, new int[size * room + 1]);
                t.is("one byte too many", o.read(0, width), -3);
                t.is("nothing is fed", o.row(0, 0), 400 - room);
                t.is("the tape is empty", o.count(0), 0);
                Sentences.tape(o, new int[size * (room - 1) + 1]);
                t.is("the last, of one byte", o.read(0, width), 400);
                t.is("the tape is empty", o.count(0), 0);
                Sentences.tape(o, 1);
                t.is("no more", o.read(0, width), -3);
                t.is("nothing at all", o.read(0, width), 400);
            }
        }
        LoadCounter o = new LoadCounter();
        o.put(11, 2, 0, 0);
        t.is("nothing at all", o.read(11, 5), 0);
        Sentences.tape(o, new int[400]);
        t.is("400 at once", o.read(11, 0), 400);
        o.put(0, 3, 0, 399);
        Sentences.tape(o, new int[400]);
        t.is("400 of a Dumb", o.read(0, 0), 400);
        Sentences.tape(o, new int[1]);
        t.is("SPANS with nothing are SPANS", o.read(0, 0), -3);
    }

    private static void tearAndFill() {
        t.of("Promise 9", "SPANS from up to .. are GAPS (..): how many READINGS went");
        int[][] tears = {{0, 0, 1}, {9, 9, 1}, {4, 4, 0}, {0, 9, 9}, {3, 5, 2}, {0, 4, 4}};
        for (int[] x : tears) {
            LoadCounter o = Sentences.busy();
            int[] due = Sentences.spans(o, 0);
            Arrays.fill(due, x[0], x[1] + 1, GAP);
            t.is("SPANS " + x[0] + " to " + x[1], o.tear(0, x[0], x[1]), x[2]);
            t.alike("then", Sentences.spans(o, 0), due);
            t.is("once more", o.tear(0, x[0], x[1]), 0);
        }
        LoadCounter o = Sentences.strain(new int[400]);
        t.is("SPAN 399 of 400", o.tear(0, 399, 399), 1);
        t.is("0 to 400", o.tear(0, 0, 400), -1);
        t.is("0 to 399", o.tear(0, 0, 399), 399);
        t.is("GAPS", o.row(0, 1), 400);
        t.of("Promise 9", "(those of a Dumb that have nothing stay so)");
        LoadCounter x = Sentences.busy();
        t.is("2 to 4 have nothing", x.tear(3, 2, 4), 0);
        t.is("GAPS", x.row(3, 1), 0);
        t.is("1 to 5", x.tear(3, 1, 5), 2);
        t.is("GAPS", x.row(3, 1), 2);
        t.of("Promise 10", "A GAP .. has a READING: true");
        LoadCounter y = Sentences.strain(BEYOND, 1, BEYOND);
        t.is("the first SPAN, the greatest", y.fill(0, 0, 1000000));
        t.is("the last SPAN, the least", y.fill(0, 2, -1000000));
        t.alike("then", Sentences.spans(y, 0), 1000000, 1, -1000000);
        t.is("it is no GAP any more", bit(y.fill(0, 0, 0)), 0);
        y.tear(0, 1, 1);
        t.is("one torn", y.fill(0, 1, 0));
        t.is("0 is a READING", y.row(0, 2), 3);
        Sentences.load(y, 0, new int[397]);
        y.tear(0, 399, 399);
        t.is("SPAN 399", y.fill(0, 399, 5));
    }

    private static void rowSpanAndTurn() {
        t.of("Promise 11", "SPANS of the GAUGE in PLACE p (0), GAPS (1), READINGS (2), how many are in its ROW (3), TURNS "
            + "of that (4), CYCLES (5), TURNS of the REST (6)");
        int[][] rows = {{}, {BEYOND}, {7}, {7, 7}, {0, 10, 3, 3, BEYOND, 7, -4}, Sentences.zigzag(400),
            Sentences.outwards(400)};
        int[][] due = {{0, 0, 0, 0, 0, 0, 0}, {1, 1, 0, 0, 0, 0, 0}, {1, 0, 1, 1, 1, 0, 1}, {2, 0, 2, 2, 1, 0, 1},
            {7, 1, 6, 6, 5, 1, 3}, {400, 0, 400, 400, 400, 199, 2}, {400, 0, 400, 400, 400, 0, 400}};
        for (int i = 0; i < rows.length; i++) {
            LoadCounter o = Sentences.strain(rows[i]);
            int[] got = new int[7];
            for (int what = 0; what < 7; what++) {
                got[what] = o.row(0, what);
            }
            t.alike("row " + i, got, due[i]);
        }
        t.of("Promise 12", "its READING; 2000000 a GAP, 3000000 nothing");
        LoadCounter o = Sentences.busy();
        t.alike("of a Dumb", Sentences.spans(o, 3), 0, 10, 3000000, 3000000, 3000000, -4, 12, 5, 20, -9);
        t.alike("of a Strain", Sentences.spans(o, 0), 0, 10, 3, 7, 2000000, -4, 12, 5, 20, -9);
        t.alike("of a Sum", Sentences.spans(o, 4), 0, 20, 3000000, 3000000, 2000000, -8, 24, 10, 40, -18);
        t.of("Promise 13", "TURN k of the ROW (sort 0), of the REST (1)");
        t.alike("the first to the last", Sentences.turns(o, 0, 0), 0, 10, 3, 7, -4, 12, 5, 20, -9);
        t.alike("of the REST", Sentences.turns(o, 0, 1), 0, 10, -4, 20, -9);
        t.is("a REST of one", Sentences.strain(7).turn(0, 1, 0), 7);
        t.of("Promise 14", "Of CYCLE k: 0 the TURN that came first, 1 the other, 2 .. 3 .. 4 .. 5 its RANGE, 6 its MEAN");
        t.alike("the first", Sentences.cycle(o, 0, 0), 3, 7, 2, 3, 4, 4, 10);
        t.alike("the last", Sentences.cycle(o, 0, 1), 12, 5, 5, 6, 7, 7, 17);
    }

    private static int check(int[] row, int... bytes) {
        LoadCounter o = Sentences.strain(row);
        Sentences.tape(o, bytes);
        int answer = o.check(0);
        t.is("the tape is empty", o.count(0), 0);
        t.is("check is no ACT", o.undo() && o.row(0, 0) == row.length && o.damage(0, 0, 0) == 0);
        return answer;
    }

    private static void checkOfFew() {
        t.of("Promise 15", "0, if they are just these");
        int[] row = {0, 10, 3, 7, -4, 12, 5, 20, -9};
        t.is("just these", check(row, 2, 3, 5, 6), 0);
        t.is("in whatever order", check(row, 6, 5, 3, 2), 0);
        t.is("nothing told of no TURNS", check(new int[0]), 0);
        t.is("nothing told of no CYCLES", check(new int[] {0, 9}), 0);
        t.of("Promise 15", "else 1 and the least TURN that is told with another one than it should be");
        t.is("both with another", check(row, 2, 5, 3, 6), 3);
        t.is("the last with another", check(row, 2, 3, 5, 8), 6);
        t.is("one that should be with none", check(row, 2, 3, 5, 6, 0, 8), 1);
        t.is("the least of all, TURN 0", check(row, 8, 0), 1);
        t.is("the greatest of all, TURN 8", check(row, 2, 3, 5, 6, 8, 8), 9);
        t.of("Promise 15", "(or alone");
        t.is("with itself", check(row, 2, 2, 3, 3, 5, 6), 3);
        t.is("one of the REST with itself", check(row, 2, 3, 5, 6, 1, 1), 2);
        t.of("Promise 15", "or not");
        t.is("the first is not told", check(row, 5, 6), 3);
        t.is("the last is not told", check(row, 2, 3), 6);
        t.is("none is told", check(row), 3);
        t.of("Promise 15", "or more than once)");
        t.is("twice", check(row, 2, 3, 5, 6, 5, 6), 6);
        t.is("twice, turned", check(row, 2, 3, 5, 6, 3, 2), 3);
        t.is("thrice", check(row, 5, 6, 5, 6, 5, 6, 2, 3), 6);
        t.is("rightly, then wrongly", check(row, 2, 3, 5, 6, 2, 7), 3);
        t.is("wrongly, then rightly", check(row, 5, 6, 2, 7, 2, 3), 3);
        t.of("Promise 15", "-2: .. a TURN that there is not");
        t.is("the last there is", check(row, 2, 3, 5, 6, 7, 8), 8);
        t.is("one more", check(row, 2, 3, 5, 6, 7, 9), -2);
        t.is("of no TURNS", check(new int[0], 0, 0), -2);
        t.of("Promise 15", "-2: an odd number of bytes");
        t.is("1", check(row, 2), -2);
        t.is("5", check(row, 2, 3, 5, 6, 0), -2);
    }

    /** In a zigzag each TURN but the first and the last one or two is in a CYCLE with its neighbour. */
    private static int[] cyclesOfZigzag(int turns) {
        int[] bytes = new int[(turns - 2) / 2 * 2];
        for (int i = 0; i < bytes.length; i++) {
            bytes[i] = i + 1;
        }
        return bytes;
    }

    private static void checkOfMany() {
        t.of("Promise 15", "-2: .. or the ROW has more than 256 TURNS");
        int[] most = cyclesOfZigzag(256);
        t.is("CYCLES of 256", most.length, 254);
        t.is("all of 256", check(Sentences.zigzag(256), most), 0);
        t.is("TURN 253 with TURN 255", check(Sentences.zigzag(256), replaced(most, 253, 255)), 254);
        int[] more = Arrays.copyOf(most, 256);
        more[254] = 255;
        more[255] = 254;
        t.is("TURN 254 more than once", check(Sentences.zigzag(256), more), 255);
        t.is("TURN 255 with itself", check(Sentences.outwards(256), 255, 255), 256);
        t.is("TURN 128: bytes are without a sign", check(Sentences.outwards(256), 200, 128), 129);
        t.is("TURN 255 of 255", check(Sentences.outwards(255), 0, 255), -2);
        t.is("nothing told of 256", check(Sentences.outwards(256)), 0);
        t.is("nothing told of 257", check(Sentences.outwards(257)), -2);
        t.is("all of 257", check(Sentences.zigzag(257), cyclesOfZigzag(257)), -2);
        t.is("nothing told of 400", check(Sentences.zigzag(400)), -2);
        int[] full = new int[400];
        for (int i = 0; i < 400; i++) {
            full[i] = i % 2 + 1;
        }
        t.is("a full tape, one CYCLE 200 times", check(Sentences.zigzag(4), full), 2);
        full[399] = 4;
        t.is("a full tape, the last byte is none", check(Sentences.zigzag(4), full), -2);
    }

    private static int[] replaced(int[] bytes, int at, int by) {
        int[] x = bytes.clone();
        x[at] = by;
        return x;
    }

    private static void detailsTaken() {
        t.of("Promise 16", "DETAIL d is at PLACE p (NONE: nowhere): true");
        LoadCounter o = Sentences.strain(0, 9);
        o.put(11, 4, 0, 0);
        for (int d : new int[] {0, 11}) {
            t.is("at 11", o.detail(d, 11));
            t.is("of 18", o.damage(d, 0, 1), 2);
            t.is("at 5, where nothing is", o.detail(d, 5));
            t.is("nothing", o.damage(d, 0, 0), 0);
            t.is("at 0", o.detail(d, 0));
            t.is("of 9", o.damage(d, 0, 1), 2);
            t.is("nowhere", o.detail(d, LoadCounter.NONE));
            t.is("nothing", o.damage(d, 0, 0), 0);
            t.is("nowhere once more", o.detail(d, -1));
        }
        t.of("Promise 17", "one BOUND more, behind the others: how many");
        int[] ranges = {1, 2, 3, 1000000, MAX - 1, MAX};
        int[] bears = {10000000, 1, 5, 7, 11, 720720};
        for (int d : new int[] {0, 11}) {
            for (int i = 0; i < 6; i++) {
                t.is("range " + ranges[i], o.bound(d, ranges[i], bears[i]), i + 1);
                t.is("as the one ahead", o.bound(d, ranges[i], 1), -1);
            }
        }
        t.of("Promise 18", "one MEAN more, behind the others: likewise (above the one ahead; the first one any)");
        int[] means = {MIN, MIN + 1, 0, MAX};
        int[] percentages = {10, 400, 100, 11};
        for (int d : new int[] {0, 11}) {
            for (int i = 0; i < 4; i++) {
                t.is("mean " + means[i], o.mean(d, means[i], percentages[i]), i + 1);
                t.is("as the one ahead", o.mean(d, means[i], 100), -1);
            }
        }
        t.is("a first one", o.mean(1, MAX, 400), 1);
        t.is("nothing is above it", o.mean(1, MAX, 400), -1);
        t.of("Promise 22", "one STEP more, behind the others (length above .. , 0 or more; by 0 to 1000000): how many");
        int[] lengths = {0, 1, 1000000001, MAX};
        for (int d : new int[] {0, 11}) {
            for (int i = 0; i < 4; i++) {
                t.is("length " + lengths[i], o.step(d, lengths[i], i % 2 == 0 ? 1000000 : 0), i + 1);
                t.is("as the one ahead", o.step(d, lengths[i], 1), -1);
            }
        }
        t.is("a first one", o.step(1, MAX, 0), 1);
        t.is("nothing is above it", o.step(1, MAX, 0), -1);
    }

    private static void limitWorstAndCrack() {
        t.of("Promise 19", "a LIMIT (0 to 4000000): true");
        LoadCounter o = Sentences.strain(-1000000, 1000000);
        o.mean(0, 0, 200);
        t.is("EFFECT of 4000000, LIMIT of it", o.limit(0, 4000000) && o.damage(0, 0, 1) == 2);
        t.is("LIMIT 0", o.limit(0, 0) && o.damage(0, 0, 1) == 2);
        t.is("of 11", o.limit(11, 4000000) && o.limit(11, 0));
        LoadCounter less = Sentences.strain(-1000000, 999999);
        less.mean(0, 0, 200);
        t.is("EFFECT of 3999998, LIMIT of 4000000", less.limit(0, 4000000) && less.damage(0, 0, 0) == 0);
        t.of("Promise 20", "a WORST range (0 to 4000000): true");
        LoadCounter x = Sentences.strain(BEYOND);
        x.bound(0, 3999999, 2);
        x.bound(0, 4000000, 3);
        t.is("4000000", x.worst(0, 4000000) && x.damage(0, 1, 1) == 3);
        t.is("0", x.worst(0, 0) && x.damage(0, 1, 1) == 2);
        t.is("of 11", x.worst(11, 4000000) && x.worst(11, 0));
        t.of("Promise 21", "a CRACK of a length (0 to 1000000; what it had goes), and a THRESHOLD (0 to 4000000): true");
        LoadCounter y = Sentences.strain(-1000000, 1000000, -1000000, 1000000);
        y.mean(0, 0, 201);
        y.step(0, 0, 7);
        t.is("EFFECT of 4020000 is above 4000000", y.crack(0, 0, 4000000) && y.length(0) == 7);
        t.is("the longest", y.crack(0, 1000000, 0) && y.length(0) == 1000007);
        t.is("what it had goes", y.crack(0, 0, 0) && y.length(0) == 7);
        t.is("of 11", y.crack(11, 1000000, 4000000) && y.length(11) == 1000000);
        LoadCounter z = Sentences.strain(-1000000, 1000000, -1000000, 1000000);
        z.mean(0, 0, 200);
        z.step(0, 0, 7);
        t.is("EFFECT of 4000000 is not above it", z.crack(0, 1, 4000000) && z.length(0) == 1);
        t.is("but above 3999999", z.crack(0, 1, 3999999) && z.length(0) == 8);
    }

    private static void mend() {
        t.of("Promise 23", "its BEGINNING is behind the last SPAN of its GAUGE (0 without one), and it has no CRACK: that");
        LoadCounter o = Sentences.busy();
        int[] places = {0, 1, 2, 3, 4, 5, 6, 11, -1};
        int[] due = {10, 10, 10, 10, 10, 0, 0, 0, 0};
        for (int i = 0; i < places.length; i++) {
            for (int d : new int[] {0, 11}) {
                o.detail(d, places[i]);
                o.crack(d, 5, 0);
                t.is("at " + places[i], o.mend(d), due[i]);
                t.is("no CRACK", o.length(d), -1);
                t.is("LEAST", o.damage(d, 0, 0), 0);
                t.is("MOST", o.damage(d, 1, 0), 0);
            }
        }
        LoadCounter x = Sentences.strain(Sentences.zigzag(400));
        t.is("a full one", x.mend(0), 400);
        t.is("nothing behind it", x.damage(0, 0, 0), 0);
        t.is("a second time", x.mend(0), 400);
        x.detail(0, 7);
        x.mend(0);
        x.detail(0, 0);
        t.is("0 without a GAUGE: all of it", x.part(0, 6), 199 * LIFE + LIFE / 2);
        LoadCounter y = Sentences.strain(0, 9);
        y.mend(0);
        y.put(0, 0, 0, 0);
        Sentences.load(y, 0, 7, 8);
        t.is("SPANS 0 and 1 are ahead of it", y.damage(0, 0, 0), 0);
        Sentences.load(y, 0, 5);
        t.is("SPAN 2 alone", y.damage(0, 0, 0), 0);
        Sentences.load(y, 0, 6);
        t.is("SPANS 2 and 3", y.damage(0, 0, 1), 2);
    }

    private static void fraction(String what, LoadCounter o, int sort, long above, long below, long over) {
        t.is(what + ", above", o.damage(0, sort, 0), above);
        t.is(what + ", below", o.damage(0, sort, 1), below);
        t.is(what + ", over", o.damage(0, sort, 2), over);
    }

    private static void damage() {
        t.of("Promise 24", "the number above (what 0), below (1) in lowest terms; 2 whether it is 1 or more");
        fraction("nothing", Sentences.strain(), 0, 0, 1, 0);
        fraction("nothing", Sentences.strain(), 1, 0, 1, 0);
        LoadCounter plugged = Sentences.strain(0, 9, BEYOND);
        plugged.plug(0);
        fraction("a PLUG", plugged, 0, 0, 1, 0);
        fraction("a PLUG", plugged, 1, 0, 1, 0);
        fraction("a HALF", Sentences.strain(0, 9), 0, 1, 2, 0);
        fraction("two", Sentences.strain(0, 9, 0), 0, 1, 1, 1);
        fraction("three", Sentences.strain(0, 9, 0, 10), 0, 3, 2, 1);
        fraction("399", Sentences.strain(Sentences.outwards(400)), 0, 399, 2, 1);
        LoadCounter o = Sentences.strain(0, 9, 8, 9);
        o.bound(0, 1, 10000000);
        o.bound(0, 9, 10000000);
        fraction("3 / 20000000", o, 0, 3, 20000000, 0);
        LoadCounter x = Sentences.strain(0, 9, 8, 9, BEYOND);
        x.bound(0, 1, 9009);
        x.bound(0, 9, 10000000);
        fraction("1 / 9009 + 1 / 20000000", x, 0, 20009009, 180180000000L, 0);
        fraction("the same, with 1 / 9009", x, 1, 40009009, 180180000000L, 0);
        x.worst(0, 10);
        fraction("the same, with 1", x, 1, 180200009009L, 180180000000L, 1);
        int[] gaps = new int[400];
        Arrays.fill(gaps, BEYOND);
        LoadCounter y = Sentences.strain(gaps);
        fraction("400 GAPS", y, 1, 400, 1, 1);
        fraction("400 GAPS, LEAST", y, 0, 0, 1, 0);
        y.bound(0, 1, 400);
        fraction("400 / 400", y, 1, 1, 1, 1);
        y.fill(0, 0, 1);
        fraction("399 / 400", y, 1, 399, 400, 0);
    }

    private static void parts() {
        t.of("Promise 25", "The part of LEAST that is of BOUND i (6: of none), times 1441440000000");
        LoadCounter o = Sentences.strain(0, 1, -1, 2, -2, 3, -3, 4);
        int[] bears = {1, 2, 3, 4, 5, 6};
        for (int i = 0; i < 6; i++) {
            o.bound(0, i + 1, bears[i]);
            t.is("BOUND " + i, o.part(0, i), LIFE / 2 / bears[i]);
        }
        t.is("of none: a HALF of 7", o.part(0, 6), LIFE / 2);
        t.of("Promise 26", "number k of all by size, the greatest first, of like ones the lesser number");
        int[] due = {0, 6, 1, 2, 3, 4, 5, -1};
        for (int k = 0; k < due.length; k++) {
            t.is("number " + k, o.parts(0, k), due[k]);
        }
        t.of("Promise 26", "those without a part are left out: NONE");
        o.limit(0, 3);
        int[] left = {6, 2, 3, 4, 5, -1, -1};
        for (int k = 0; k < left.length; k++) {
            t.is("number " + k + " behind LIMIT 3", o.parts(0, k), left[k]);
        }
        o.limit(0, 100);
        t.is("none at all", o.parts(0, 0), -1);
        t.is("a part of nothing", o.part(0, 0), 0);
        o.limit(0, 0);
        t.is("number MAX", o.parts(0, MAX), -1);
        t.is("number -1", o.parts(0, -1), -1);
        t.is("of a DETAIL without a GAUGE", o.parts(11, 0), -1);
        LoadCounter x = Sentences.strain(0, 1, 0, 1);
        t.is("6 alone", x.parts(0, 0), 6);
        t.is("no other", x.parts(0, 1), -1);
    }

    private static int left(int halves, int bears, int days) {
        LoadCounter o = Sentences.strain(Sentences.outwards(halves + 1));
        o.bound(0, 4000, bears);
        return o.left(0, days);
    }

    private static void left() {
        t.of("Promise 27", "LEAST came in so many days (1 to 100000): on which day further on it is 1 at the same rate");
        t.is("1/2 in 1", left(1, 1, 1), 1);
        t.is("1/2 in 100000", left(1, 1, 100000), 100000);
        t.is("3/8 in 1: 5/3, upwards", left(3, 4, 1), 2);
        t.is("3/8 in 3: just 5", left(3, 4, 3), 5);
        t.is("3/8 in 4: 20/3, upwards", left(3, 4, 4), 7);
        t.is("in 0", left(1, 1, 0), -1);
        t.is("in 100001", left(1, 1, 100001), -1);
        t.of("Promise 27", "(0: it is)");
        t.is("just 1", left(2, 1, 9), 0);
        t.is("more", left(399, 1, 100000), 0);
        t.is("7/8 in 1: the next one", left(7, 4, 1), 1);
        t.of("Promise 27", "2147483647 at most");
        t.is("one less", left(253, 3500000, 77619), 2147483646);
        t.is("just so", left(53, 3120000, 18240), MAX);
        t.is("one more", left(329, 8236800, 42889), MAX);
        t.is("far more", left(1, 10000000, 100000), MAX);
        t.of("Promise 27", "NONE, if LEAST is 0");
        t.is("one READING", left(0, 1, 1), -1);
        LoadCounter gaps = Sentences.strain(BEYOND, BEYOND);
        t.is("GAPS are nothing to it", gaps.left(0, 1), -1);
    }

    private static void length() {
        t.of("Promise 28", "The length of DETAIL d's CRACK; NONE without one");
        LoadCounter o = Sentences.busy();
        t.is("grown: 5 by 3, EFFECTS 6 and 11 of which one is above 6", o.length(0), 8);
        t.is("without one", o.length(11), -1);
        LoadCounter none = Sentences.strain(0, 9, 0, 9);
        none.step(0, 0, 5);
        t.is("without one, with what would make it longer", none.length(0), -1);
        o.crack(11, 0, 0);
        t.is("of length 0, without STEPS", o.length(11), 0);
        o.mend(11);
        t.is("mended", o.length(11), -1);
        LoadCounter x = Sentences.strain(0, 9, 0, 9);
        x.step(0, 0, 1);
        x.crack(0, 0, 0);
        t.is("of length 0, grown", x.length(0), 1);
        x.plug(0);
        t.is("nothing grows without a GAUGE", x.length(0), 0);
    }

    /** From 10, each CYCLE by 1, but from 20 on by 5. */
    private static LoadCounter cracked() {
        LoadCounter o = new LoadCounter();
        o.step(0, 19, 1);
        o.step(0, 20, 5);
        o.crack(0, 10, 0);
        return o;
    }

    private static void due() {
        LoadCounter o = cracked();
        t.of("Promise 29", "the first day a at whose end it has a length of seen or more");
        t.is("seen 10: now, end 20 on day 10, every 9", o.due(0, 1, 10, 20, 9), 0);
        t.is("seen 11: day 1", o.due(0, 1, 11, 20, 9), -1);
        t.is("seen 11: day 1, every 8", o.due(0, 1, 11, 20, 8), 1);
        t.is("seen 0: now", o.due(0, 1, 0, 20, 9), 0);
        t.is("seen 19, the last day but one", o.due(0, 1, 19, 21, 1), 9);
        t.is("seen 20", o.due(0, 1, 20, 21, 1), -1);
        t.of("Promise 29", "the first day b at whose end it has one of end or more (0: it has now)");
        t.is("end 20 on day 10", o.due(0, 1, 0, 20, 1), 8);
        t.is("end 21 on day 11", o.due(0, 1, 0, 21, 1), 9);
        t.is("end 25 on day 11", o.due(0, 1, 0, 25, 1), 9);
        t.is("end 26 on day 12", o.due(0, 1, 0, 26, 1), 10);
        t.is("end 10: now", o.due(0, 1, 0, 10, 1), -1);
        t.is("end 9: now", o.due(0, 1, 0, 9, 1), -1);
        t.is("seen and end 0: now", o.due(0, 1, 0, 0, 1), -1);
        t.is("end 11 on day 1", o.due(0, 1, 0, 11, 1), -1);
        t.is("end 12 on day 2: day 0 and day 1 are ahead", o.due(0, 1, 0, 12, 1), 0);
        t.of("Promise 29", "the last day from a on so that it and the one so many days (..) behind it are ahead of b");
        t.is("b 10, every 8", o.due(0, 1, 0, 20, 8), 1);
        t.is("b 10, every 9", o.due(0, 1, 0, 20, 9), 0);
        t.is("b 10, every 10", o.due(0, 1, 0, 20, 10), -1);
        t.is("every 10000", o.due(0, 1, 0, 20 + 9990 * 5 + 1, 10000), 0);
        t.is("every 10000, a day less", o.due(0, 1, 0, 20 + 9990 * 5, 10000), -1);
        t.of("Promise 29", "by n CYCLES a day (1 to 1000)");
        t.is("2 a day: end 20 on day 5", o.due(0, 2, 0, 20, 1), 3);
        t.is("3 a day: end 20 on day 4", o.due(0, 3, 0, 20, 1), 2);
        t.is("10 a day: end 20 on day 1", o.due(0, 10, 0, 20, 1), -1);
        t.is("10 a day: end 21 on day 2", o.due(0, 10, 20, 21, 1), -1);
        t.is("10 a day: end 71 on day 3", o.due(0, 10, 20, 71, 1), 1);
        t.is("1000 a day: end 4970 on day 1", o.due(0, 1000, 0, 4970, 1), -1);
        t.is("1000 a day: end 4971 on day 2", o.due(0, 1000, 0, 4971, 1), 0);
        dueWithin();
    }

    private static void dueWithin() {
        t.of("Promise 29", "NONE, if .. it does not come to end within 100000 CYCLES");
        LoadCounter o = cracked();
        int at = 20 + 99990 * 5;
        t.is("100000, 1 a day", o.due(0, 1, 0, at, 1), 99998);
        t.is("100001, 1 a day", o.due(0, 1, 0, at + 1, 1), -1);
        t.is("100000, 1000 a day", o.due(0, 1000, 0, at, 1), 98);
        t.is("100001, 1000 a day", o.due(0, 1000, 0, at + 1, 1), -1);
        t.is("100000, 7 a day", o.due(0, 7, 0, at, 1), 14284);
        t.is("100001, 7 a day", o.due(0, 7, 0, at + 1, 1), -1);
        t.is("end MAX", o.due(0, 1, 0, MAX, 1), -1);
        t.is("seen and end MAX", o.due(0, 1, MAX, MAX, 1), -1);
        LoadCounter still = new LoadCounter();
        still.crack(0, 10, 0);
        t.is("it does not grow", still.due(0, 1, 0, 11, 1), -1);
        t.is("it is there now", still.due(0, 1, 0, 10, 1), -1);
        still.step(0, 9, 5);
        still.step(0, 10, 0);
        still.step(0, 11, 5);
        t.is("a STEP of 0 stands in the way", still.due(0, 1, 0, 11, 1), -1);
        still.crack(0, 11, 0);
        t.is("not from behind it", still.due(0, 1, 0, 21, 1), 0);
        still.crack(0, 6, 0);
        t.is("nor when it is leapt over", still.due(0, 1, 0, 21, 1), 1);
        t.of("Promise 29", "A CRACK of DETAIL d grows on from its length");
        LoadCounter x = Sentences.strain(0, 9, 0, 9);
        x.step(0, 0, 4);
        x.crack(0, 10, 4000000);
        t.is("10 now, end 18 on day 2", x.due(0, 1, 0, 18, 1), 0);
        x.crack(0, 10, 0);
        t.is("14 now, end 18 on day 1", x.due(0, 1, 0, 18, 1), -1);
        t.is("14 now, end 19 on day 2", x.due(0, 1, 0, 19, 1), 0);
    }

    private static void undoes(String what, long due, Sentences.Call call) {
        boolean read = what.startsWith("read");
        LoadCounter as = Sentences.busy();
        LoadCounter o = Sentences.busy();
        t.is(what, Sentences.answer(call, o), due);
        t.is("an ACT can be undone", o.count(3), 1);
        t.is("it is undone", o.undo());
        t.is("no ACT can be undone then", o.count(3), 0);
        t.is("undo() once", bit(o.undo()), 0);
        if (read) {
            as.end(0);
        }
        t.same("all is as ahead of " + what, Sentences.stateOf(o), Sentences.stateOf(as));
        LoadCounter x = Sentences.busy();
        Sentences.answer(call, x);
        x.plug(8);
        t.is("until the next one is done", x.undo() && x.kind(8) == -1);
        LoadCounter done = Sentences.busy();
        Sentences.answer(call, done);
        t.same("the next one alone is undone behind " + what, Sentences.stateOf(x), Sentences.stateOf(done));
    }

    private static void undo() {
        t.of("Terms 4", "ACTS: put, plug, take, read, tear, fill, detail, bound, mean, limit, worst, crack, step, mend, that "
            + "say they were done. The latest one can be undone, until the next one is done (undo() once)");
        undoes("put where nothing is", 1, o -> bit(o.put(6, 1, 1, 0)));
        undoes("put over a GAUGE", 1, o -> bit(o.put(0, 0, 0, 0)));
        undoes("put over a Sum", 1, o -> bit(o.put(4, 4, 0, 1)));
        undoes("put over a Step", 1, o -> bit(o.put(1, 1, 1, 0)));
        undoes("put over a Dumb", 1, o -> bit(o.put(3, 3, 0, 399)));
        undoes("put over the same", 1, o -> bit(o.put(11, 0, 0, 0)));
        undoes("plug over a GAUGE", 1, o -> bit(o.plug(2)));
        undoes("plug over a PLUG", 1, o -> bit(o.plug(5)));
        undoes("plug over nothing", 1, o -> bit(o.plug(10)));
        undoes("take a GAUGE", 1, o -> bit(o.take(3)));
        undoes("take a PLUG", 1, o -> bit(o.take(5)));
        undoes("read", 17, o -> o.read(0, 0));
        undoes("read into one without SPANS", 2, o -> o.read(11, 2));
        undoes("read into a Dumb", 14, o -> o.read(3, 1));
        undoes("read of nothing", 10, o -> {
            o.end(0);
            return o.read(2, 0);
        });
        undoes("read until it is full", 400, o -> {
            Sentences.tape(o, new int[390]);
            return o.read(0, 0);
        });
        undoes("tear", 9, o -> o.tear(0, 0, 9));
        undoes("tear where no READING is", 0, o -> o.tear(0, 4, 4));
        undoes("tear of a Dumb", 7, o -> o.tear(3, 0, 9));
        undoes("fill", 1, o -> bit(o.fill(0, 4, -1000000)));
        undoes("detail", 1, o -> bit(o.detail(0, 2)));
        undoes("detail nowhere", 1, o -> bit(o.detail(10, -1)));
        undoes("detail where it is", 1, o -> bit(o.detail(0, 0)));
        undoes("bound", 4, o -> o.bound(0, 31, 1));
        undoes("bound, the first", 1, o -> o.bound(11, 1, 1));
        undoes("mean", 3, o -> o.mean(0, 21, 400));
        undoes("mean, the first", 1, o -> o.mean(11, -5, 10));
        undoes("limit", 1, o -> bit(o.limit(0, 4000000)));
        undoes("worst", 1, o -> bit(o.worst(0, 4000000)));
        undoes("crack", 1, o -> bit(o.crack(0, 0, 0)));
        undoes("crack, the first", 1, o -> bit(o.crack(11, 0, 0)));
        undoes("step", 3, o -> o.step(0, 31, 0));
        undoes("step, the first", 1, o -> o.step(11, 0, 0));
        undoes("mend", 10, o -> o.mend(0));
        undoes("mend without a GAUGE", 0, o -> o.mend(1));
    }

    private static void undoStands() {
        t.of("Promise 30", "The latest ACT is undone: true (feed, end, check, image and what only tells are none)");
        LoadCounter o = Sentences.busy();
        o.feed(1, 2, 3, 4, 5);
        o.end(4);
        o.check(0);
        t.is("image() there was one", o.image());
        o.kind(0);
        o.length(0);
        t.is("an ACT can be undone still", o.count(3), 1);
        t.is("undo", o.undo());
        LoadCounter due = Sentences.busy();
        due.worst(0, 20);
        due.end(0);
        t.same("WORST is 20 again", Sentences.stateOf(o), Sentences.stateOf(due));
        LoadCounter x = new LoadCounter();
        t.is("of a new one", bit(x.undo()), 0);
        x.plug(0);
        x.undo();
        t.is("an ACT behind an undo", x.plug(1) && x.count(3) == 1 && x.undo() && x.kind(1) == -1);
        t.is("undo is none", bit(x.undo()), 0);
        LoadCounter y = new LoadCounter();
        y.plug(0);
        y.plug(1);
        t.is("the latest alone", y.undo() && y.kind(0) == 5 && y.kind(1) == -1);
        t.is("not the one ahead", bit(y.undo()), 0);
        t.is("which stays", y.kind(0), 5);
    }

    private static void image() {
        t.of("Promise 31", "The IMAGE is made: true, if there was one");
        LoadCounter o = new LoadCounter();
        t.is("of a new one", bit(o.image()), 0);
        t.is("there is one", o.count(4), 1);
        t.is("once more", o.image());
        t.is("there is one still", o.count(4), 1);
        o.plug(3);
        o.bound(2, 5, 5);
        t.is("back to the new one", o.again() && o.kind(3) == -1 && o.bound(2, 1, 1) == 1);
        t.of("Promise 32", "All is as in the IMAGE (no ACT can be undone then): true");
        LoadCounter x = Sentences.busy();
        x.image();
        String state = Sentences.stateOf(x);
        LoadCounter y = Sentences.busy();
        y.image();
        for (int p = 0; p < 12; p++) {
            y.put(p, 1, 1, 1);
            Sentences.load(y, p, 5, 6, BEYOND, 7);
            y.detail(p, 11 - p);
            y.bound(p, 1000, 1);
            y.mean(p, 1000, 11);
            y.step(p, 1000, 1);
            y.limit(p, 3);
            y.worst(p, 3);
            y.mend(p);
            y.crack(p, 3, 3);
        }
        Sentences.tape(y, 1, 2, 3, 4, 250, 0, 7);
        t.is("again", y.again());
        t.is("no ACT can be undone", y.count(3), 0);
        t.is("undo", bit(y.undo()), 0);
        t.is("there is an IMAGE still", y.count(4), 1);
        t.same("all is as in it", Sentences.stateOf(y), state);
        LoadCounter z = Sentences.busy();
        z.image();
        z.again();
        z.take(0);
        z.mend(0);
        t.is("a second time", z.again());
        t.same("all is as in it", Sentences.stateOf(z), state);
    }

    /** What is undone leaves room for others, and the IMAGE is of those ahead. */
    private static void imageOfWhatWasUndone() {
        LoadCounter o = Sentences.strain(0, 9, 0, 9);
        o.crack(0, 5, 0);
        o.bound(0, 9, 5);
        o.image();
        o.undo();
        o.bound(0, 8, 7);
        t.is("another BOUND, then back", o.again() && o.part(0, 0) == 3 * LIFE / 10);
        t.is("one behind it", o.bound(0, 9, 10) == -1 && o.bound(0, 20, 10) == 2);
        o.mean(0, 12, 200);
        o.image();
        o.undo();
        o.mean(0, 11, 300);
        t.is("another MEAN, then back", o.again() && o.part(0, 1) == 3 * LIFE / 20);
        t.is("one behind it", o.mean(0, 12, 10) == -1 && o.mean(0, 13, 10) == 2);
        o.step(0, 5, 6);
        o.image();
        o.undo();
        o.step(0, 4, 7);
        t.is("another STEP, then back", o.again() && o.length(0) == 11 && o.step(0, 5, 1) == -1);
        t.is("one behind it", o.step(0, 6, 1), 2);
    }

    private static void imageOfTheFullest() {
        t.of("Terms 4", "An IMAGE of all (board, details) can be made, and gone back to");
        LoadCounter o = Sentences.strain(Sentences.zigzag(400));
        o.put(11, 3, 399, 399);
        Sentences.load(o, 11, new int[400]);
        o.image();
        o.tear(0, 0, 399);
        o.take(11);
        t.is("again", o.again());
        t.alike("400 SPANS", Sentences.spans(o, 0), Sentences.zigzag(400));
        t.is("a Dumb's last", o.span(11, 399), Sentences.NOTHING);
        t.is("a Dumb's last but one", o.span(11, 398), 0);
    }

    private static void count() {
        t.of("Promise 33", "0 bytes of the tape, 1 GAUGES, 2 PLUGS, 3 whether an ACT can be undone, 4 whether there is an IMAGE");
        LoadCounter o = new LoadCounter();
        for (int i = 1; i <= 20; i++) {
            o.feed(0, 0, 0, 0, 0);
        }
        t.is("400 bytes", o.count(0), 400);
        for (int p = 0; p < 12; p++) {
            o.put(p, p % 5, 1, 1);
            t.is("GAUGES, a Sum too", o.count(1), p + 1);
        }
        for (int p = 0; p < 12; p++) {
            o.plug(p);
            t.is("PLUGS", o.count(2), p + 1);
            t.is("GAUGES", o.count(1), 11 - p);
        }
        t.is("an ACT", o.count(3), 1);
        o.undo();
        t.is("undone", o.count(3), 0);
        t.is("PLUGS", o.count(2), 11);
        t.is("GAUGES", o.count(1), 1);
        t.is("no IMAGE", o.count(4), 0);
        o.image();
        t.is("an IMAGE", o.count(4), 1);
    }

    private static void fullest() {
        t.of("The document", "An object is used for at most 512 calls after it has been made");
        LoadCounter o = new LoadCounter();
        int calls = 0;
        for (int p = 0; p < 12; p++) {
            o.put(p, p == 11 ? 3 : 0, 0, 0);
            for (int i = 0; i < 20; i++) {
                o.feed(0x00010001, 0x00010001, 0x00010001, 0x00010001, 0x00010001);
            }
            t.is("400 SPANS in " + p, o.read(p, 0), 400);
            o.detail(p, p);
            calls += 23;
        }
        o.image();
        for (calls++; calls < 511; calls++) {
            int d = calls % 12;
            t.is("199 CYCLES and a HALF", o.part(d, 6), 199 * LIFE + (d == 11 ? 0 : LIFE / 2));
        }
        t.is("the 512th call", o.again());
    }

    public static void main(String[] args) {
        newObject();
        feedAndEnd();
        putPlugAndTake();
        read();
        tearAndFill();
        rowSpanAndTurn();
        checkOfFew();
        checkOfMany();
        detailsTaken();
        limitWorstAndCrack();
        mend();
        damage();
        parts();
        left();
        length();
        due();
        undo();
        undoStands();
        image();
        imageOfWhatWasUndone();
        imageOfTheFullest();
        count();
        fullest();
        t.end();
    }
}
