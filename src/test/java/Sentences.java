import java.util.Arrays;
import java.util.NoSuchElementException;

/** What the tests of single sentences share: their count, loads for gauges, and a busy office. */
final class Sentences {
    /** One call, or some, on an office: a boolean counts 1 or 0. */
    interface Call {
        long on(LoadCounter o);
    }

    static final long THROWN = Long.MIN_VALUE;
    static final int NONE = -1;
    static final int GAP = 2000000;
    static final int NOTHING = 3000000;
    /** As an int on the tape it is beyond, so it becomes a GAP. */
    static final int BEYOND = 9999999;
    static final int MIN = Integer.MIN_VALUE;
    static final int MAX = Integer.MAX_VALUE;
    /** How many parts of LEAST make 1, as part() tells them. */
    static final long LIFE = 1441440000000L;

    private int passed = 0;
    private int failed = 0;
    private String sentence = "";

    /** The words of the document that the tests behind this are for. */
    void of(String where, String words) {
        sentence = where + ", \"" + words + "\"";
    }

    void is(String what, long got, long due) {
        if (got == due) {
            passed++;
        } else {
            failed++;
            System.out.println(sentence + ": " + what + " answered " + named(got) + ", due is " + named(due));
        }
    }

    void is(String what, boolean got) {
        is(what, bit(got), 1);
    }

    void same(String what, String got, String due) {
        boolean same = got.equals(due);
        if (!same) {
            System.out.println("got " + got + "\ndue " + due);
        }
        is(what, same);
    }

    void alike(String what, int[] got, int... due) {
        same(what, Arrays.toString(got), Arrays.toString(due));
    }

    private static String named(long answer) {
        return answer == THROWN ? "NoSuchElementException" : Long.toString(answer);
    }

    void end() {
        System.out.println(passed + " passed, " + failed + " failed");
        if (failed != 0) {
            System.exit(1);
        }
    }

    static long bit(boolean b) {
        return b ? 1 : 0;
    }

    static long answer(Call call, LoadCounter o) {
        try {
            return call.on(o);
        } catch (NoSuchElementException e) {
            return THROWN;
        }
    }

    /** The tape has these bytes alone. */
    static void tape(LoadCounter o, int... bytes) {
        o.end(0);
        int[] x = Arrays.copyOf(bytes, (bytes.length + 19) / 20 * 20);
        for (int i = 0; i < x.length; i += 20) {
            int[] w = new int[5];
            for (int j = 0; j < 20; j++) {
                w[j / 4] |= (x[i + j] & 255) << (24 - 8 * (j % 4));
            }
            o.feed(w[0], w[1], w[2], w[3], w[4]);
        }
        o.end(bytes.length);
    }

    /** PLACE p reads these numbers as ints, a hundred at once. */
    static void load(LoadCounter o, int p, int... numbers) {
        for (int from = 0; from < numbers.length; from += 100) {
            int[] some = Arrays.copyOfRange(numbers, from, Math.min(from + 100, numbers.length));
            int[] x = Arrays.copyOf(some, (some.length + 4) / 5 * 5);
            o.end(0);
            for (int i = 0; i < x.length; i += 5) {
                o.feed(x[i], x[i + 1], x[i + 2], x[i + 3], x[i + 4]);
            }
            o.end(4 * some.length);
            o.read(p, 2);
        }
    }

    /** PLACE 0 has a Strain with these, and DETAIL 0 is there. */
    static LoadCounter strain(int... numbers) {
        LoadCounter o = new LoadCounter();
        o.put(0, 0, 0, 0);
        load(o, 0, numbers);
        o.detail(0, 0);
        return o;
    }

    static int[] spans(LoadCounter o, int p) {
        int[] x = new int[Math.max(0, o.row(p, 0))];
        for (int i = 0; i < x.length; i++) {
            x[i] = o.span(p, i);
        }
        return x;
    }

    static int[] turns(LoadCounter o, int p, int sort) {
        int[] x = new int[Math.max(0, o.row(p, sort == 0 ? 4 : 6))];
        for (int i = 0; i < x.length; i++) {
            x[i] = o.turn(p, sort, i);
        }
        return x;
    }

    static int[] cycle(LoadCounter o, int p, int k) {
        int[] x = new int[7];
        for (int what = 0; what < x.length; what++) {
            x[what] = o.cycle(p, k, what);
        }
        return x;
    }

    /** 0, 1, 0, 1, ..: no neighbours are the same, and they close as many CYCLES as can be. */
    static int[] zigzag(int count) {
        int[] x = new int[count];
        for (int i = 0; i < count; i++) {
            x[i] = i % 2;
        }
        return x;
    }

    /** Outwards all the way: as many TURNS, and not one CYCLE. */
    static int[] outwards(int count) {
        int[] x = new int[count];
        for (int i = 0; i < count; i++) {
            x[i] = i % 2 == 0 ? i : -i;
        }
        return x;
    }

    /**
     * Something of each kind: gauges in 0 to 4 (Strain, Step, Peak, Dumb, the Sum of 0 and 3), a
     * PLUG in 5, nothing in 6 to 10, a Strain without SPANS in 11; details 0, 10 (with all that it
     * can have) and 11; an IMAGE in which WORST of detail 0 is 10; seven bytes on the tape. The
     * latest ACT brought WORST of detail 0 from 20 to 30.
     */
    static LoadCounter busy() {
        LoadCounter o = new LoadCounter();
        for (int p = 0; p < 4; p++) {
            o.put(p, p, p == 3 ? 2 : 5, 4);
            load(o, p, 0, 10, 3, 7, BEYOND, -4, 12, 5, 20, -9);
        }
        o.put(4, 4, 0, 3);
        o.plug(5);
        o.put(11, 0, 0, 0);
        int[][] bounds = {{10, 100}, {25, 10}, {30, 7}, {40, 1}, {50, 3}, {60, 2}};
        int[][] means = {{5, 100}, {20, 150}, {30, 200}, {40, 10}};
        int[][] steps = {{10, 3}, {30, 9}, {50, 7}, {60, 1}};
        o.detail(0, 0);
        o.detail(10, 0);
        o.detail(11, 1);
        for (int i = 0; i < 6; i++) {
            o.bound(10, bounds[i][0], bounds[i][1]);
            if (i < 3) {
                o.bound(0, bounds[i][0], bounds[i][1]);
            }
            if (i < 4) {
                o.mean(10, means[i][0], means[i][1]);
                o.step(10, steps[i][0], steps[i][1]);
            }
            if (i < 2) {
                o.mean(0, means[i][0], means[i][1]);
                o.step(0, steps[i][0], steps[i][1]);
            }
        }
        o.limit(0, 8);
        o.crack(0, 5, 6);
        o.crack(10, 40, 0);
        o.worst(0, 10);
        o.image();
        o.worst(0, 20);
        o.worst(0, 30);
        tape(o, 1, 2, 3, 4, 250, 0, 7);
        return o;
    }

    /** All that can be told of an office but count(3); it is of no use then. */
    static String stateOf(LoadCounter o) {
        StringBuilder text = new StringBuilder();
        for (int what : new int[] {0, 1, 2, 4}) {
            text.append(o.count(what)).append(' ');
        }
        for (int p = 0; p < 12; p++) {
            placeState(o, p, text);
        }
        for (int d = 0; d < 12; d++) {
            detailState(o, d, text);
        }
        o.put(6, 0, 0, 0);
        o.read(6, 0);
        return text.append("\n tape ").append(Arrays.toString(spans(o, 6))).toString();
    }

    private static void placeState(LoadCounter o, int p, StringBuilder text) {
        text.append("\n place ").append(p).append(": ").append(o.kind(p));
        if (o.row(p, 0) == NONE) {
            return;
        }
        for (int what = 1; what < 6; what++) {
            text.append(' ').append(o.row(p, what));
        }
        text.append(' ').append(Arrays.toString(spans(o, p)));
    }

    private static void detailState(LoadCounter o, int d, StringBuilder text) {
        text.append("\n detail ").append(d).append(": ").append(o.damage(d, 1, 0)).append('/')
            .append(o.damage(d, 1, 1)).append(" crack ").append(o.length(d));
        if (d == 0 || d >= 10) {
            for (int i = 0; i <= 6; i++) {
                int bound = i;
                text.append(' ').append(named(answer(x -> x.part(d, bound), o)));
            }
            text.append(" due ").append(o.due(d, 1, 0, 100, 1));
        }
        // What comes behind all others tells how many there were.
        text.append(" has ").append(o.bound(d, MAX, 1)).append(' ').append(o.mean(d, MAX, 10)).append(' ')
            .append(o.step(d, MAX, 0));
    }
}
