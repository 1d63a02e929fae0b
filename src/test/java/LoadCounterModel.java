import java.math.BigInteger;
import java.nio.ByteBuffer;
import java.util.ArrayList;
import java.util.Arrays;
import java.util.HashMap;
import java.util.List;
import java.util.Map;
import java.util.NoSuchElementException;

/**
 * The document once more, as slowly and literally as it can be written, to hold LoadCounter
 * against: lists instead of rows, fractions instead of units, days counted one by one, and
 * whole copies for undo.
 */
final class LoadCounterModel {
    private static final int GAP = 2000000;
    private static final int NOTHING = 3000000;

    private static final class Gauge {
        int kind;
        int a;
        int b;
        List<Integer> cells = new ArrayList<>();

        Gauge copy() {
            Gauge g = new Gauge();
            g.kind = kind;
            g.a = a;
            g.b = b;
            g.cells = new ArrayList<>(cells);
            return g;
        }
    }

    private static final class Part {
        int place = -1;
        int beginning = 0;
        int limit = 0;
        int worst = 0;
        int crack = -1;
        int threshold = 0;
        List<int[]> bounds = new ArrayList<>();
        List<int[]> means = new ArrayList<>();
        List<int[]> steps = new ArrayList<>();

        Part copy() {
            Part p = new Part();
            p.place = place;
            p.beginning = beginning;
            p.limit = limit;
            p.worst = worst;
            p.crack = crack;
            p.threshold = threshold;
            p.bounds = new ArrayList<>(bounds);
            p.means = new ArrayList<>(means);
            p.steps = new ArrayList<>(steps);
            return p;
        }
    }

    private static final class State {
        Gauge[] places = new Gauge[12];
        Part[] details = new Part[12];

        State copy() {
            State s = new State();
            for (int i = 0; i < 12; i++) {
                s.places[i] = places[i] == null ? null : places[i].copy();
                s.details[i] = details[i].copy();
            }
            return s;
        }
    }

    private static final class Found {
        List<Integer> row = new ArrayList<>();
        List<Integer> turns = new ArrayList<>();
        List<int[]> cycles = new ArrayList<>();
        List<Integer> rest = new ArrayList<>();
        int gaps;
        int readings;
    }

    private State now = new State();
    private State before = null;
    private State picture = null;
    private byte[] tape = new byte[0];

    LoadCounterModel() {
        for (int i = 0; i < 12; i++) {
            now.details[i] = new Part();
        }
    }

    private static boolean in(int x, int lo, int hi) {
        return lo <= x && x <= hi;
    }

    private Gauge gauge(int p) {
        return in(p, 0, 11) && now.places[p] != null && now.places[p].kind != 5 ? now.places[p] : null;
    }

    private Gauge plain(int p) {
        Gauge g = gauge(p);
        return g == null || g.kind == 4 ? null : g;
    }

    private Part part(int d) {
        return in(d, 0, 11) ? now.details[d] : null;
    }

    private void act() {
        before = now.copy();
    }

    private List<Integer> cells(Gauge g) {
        if (g.kind != 4) {
            return g.cells;
        }
        List<Integer> sums = new ArrayList<>();
        Gauge x = plain(g.a);
        Gauge y = plain(g.b);
        if (x == null || y == null) {
            return sums;
        }
        for (int i = 0; i < x.cells.size() && i < y.cells.size(); i++) {
            int u = x.cells.get(i);
            int v = y.cells.get(i);
            if (u <= 1000000 && v <= 1000000) {
                sums.add(Math.abs(u + v) > 1000000 ? GAP : u + v);
            } else {
                sums.add(u == GAP || v == GAP ? GAP : NOTHING);
            }
        }
        return sums;
    }

    private static List<Integer> turnsOf(List<Integer> row) {
        List<Integer> firsts = new ArrayList<>();
        for (int i = 0; i < row.size(); i++) {
            if (i == 0 || !row.get(i).equals(row.get(i - 1))) {
                firsts.add(row.get(i));
            }
        }
        List<Integer> turns = new ArrayList<>();
        for (int i = 0; i < firsts.size(); i++) {
            boolean end = i == 0 || i == firsts.size() - 1;
            if (end || (firsts.get(i) > firsts.get(i - 1)) == (firsts.get(i) > firsts.get(i + 1))) {
                turns.add(firsts.get(i));
            }
        }
        return turns;
    }

    private Found found(Gauge g, int from) {
        Found f = new Found();
        List<Integer> all = new ArrayList<>();
        List<Integer> cells = cells(g);
        for (int i = from; i < cells.size(); i++) {
            if (cells.get(i) == GAP) {
                f.gaps++;
            } else if (cells.get(i) != NOTHING) {
                f.readings++;
                all.add(cells.get(i));
            }
        }
        for (int x : all) {
            if (g.kind != 1 || f.row.isEmpty() || Math.abs(x - f.row.get(f.row.size() - 1)) >= g.a) {
                f.row.add(x);
            }
        }
        if (g.kind == 2) {
            f.row = turnsOf(all);
        }
        f.turns = turnsOf(f.row);
        for (int t = 0; t < f.turns.size(); t++) {
            f.rest.add(t);
            while (f.rest.size() >= 4) {
                int s = f.rest.size();
                int a = f.turns.get(f.rest.get(s - 4));
                int b = f.turns.get(f.rest.get(s - 3));
                int c = f.turns.get(f.rest.get(s - 2));
                int d = f.turns.get(t);
                if (!in(b, Math.min(a, d), Math.max(a, d)) || !in(c, Math.min(a, d), Math.max(a, d))) {
                    break;
                }
                f.cycles.add(new int[] {f.rest.remove(s - 3), f.rest.remove(s - 3), t});
            }
        }
        return f;
    }

    private static int effect(Part x, int one, int other) {
        int mean = one + other;
        long percentage = 100;
        for (int[] m : x.means) {
            if (m[0] >= mean) {
                percentage = m[1];
                break;
            }
        }
        long times = Math.abs(one - other) * percentage;
        return (int) (times % 100 == 0 ? times / 100 : times / 100 + 1);
    }

    private static int boundFor(Part x, int effect) {
        for (int i = 0; i < x.bounds.size(); i++) {
            if (x.bounds.get(i)[0] >= effect) {
                return i;
            }
        }
        return 6;
    }

    private static BigInteger[] plus(BigInteger[] x, BigInteger[] y) {
        BigInteger up = x[0].multiply(y[1]).add(y[0].multiply(x[1]));
        BigInteger down = x[1].multiply(y[1]);
        BigInteger common = up.gcd(down);
        return new BigInteger[] {up.divide(common), down.divide(common)};
    }

    private static BigInteger[] fraction(long up, long down) {
        return new BigInteger[] {BigInteger.valueOf(up), BigInteger.valueOf(down)};
    }

    /** 0 to 6 the parts, 7 LEAST, 8 MOST. */
    private BigInteger[][] wear(Part x) {
        BigInteger[][] w = new BigInteger[9][];
        for (int i = 0; i < 9; i++) {
            w[i] = fraction(0, 1);
        }
        Gauge g = gauge(x.place);
        if (g == null) {
            return w;
        }
        Found f = found(g, x.beginning);
        List<int[]> counted = new ArrayList<>();
        for (int[] c : f.cycles) {
            counted.add(new int[] {effect(x, f.turns.get(c[0]), f.turns.get(c[1])), 1});
        }
        for (int i = 1; i < f.rest.size(); i++) {
            counted.add(new int[] {
                effect(x, f.turns.get(f.rest.get(i - 1)), f.turns.get(f.rest.get(i))), 2});
        }
        for (int i = 0; i < counted.size(); i++) {
            boolean counts = counted.get(i)[0] >= x.limit;
            for (int j = 0; j < i; j++) {
                counts |= counted.get(j)[0] >= x.limit;
            }
            if (counts) {
                int bound = boundFor(x, counted.get(i)[0]);
                int bears = bound == 6 ? 1 : x.bounds.get(bound)[1];
                BigInteger[] used = fraction(1, (long) bears * counted.get(i)[1]);
                w[bound] = plus(w[bound], used);
                w[7] = plus(w[7], used);
            }
        }
        int bound = boundFor(x, x.worst);
        w[8] = plus(w[7], fraction(f.gaps, bound == 6 ? 1 : x.bounds.get(bound)[1]));
        return w;
    }

    private static int grown(Part x, int length) {
        int by = x.steps.isEmpty() ? 0 : x.steps.get(x.steps.size() - 1)[1];
        for (int i = x.steps.size() - 1; i >= 0; i--) {
            if (x.steps.get(i)[0] >= length) {
                by = x.steps.get(i)[1];
            }
        }
        return Math.min(1000000000, length + by);
    }

    int feed(int a, int b, int c, int d, int e) {
        if (tape.length + 20 > 400) {
            return -1;
        }
        ByteBuffer more = ByteBuffer.allocate(tape.length + 20);
        more.put(tape).putInt(a).putInt(b).putInt(c).putInt(d).putInt(e);
        tape = more.array();
        return tape.length;
    }

    boolean end(int n) {
        if (!in(n, 0, tape.length)) {
            return false;
        }
        tape = Arrays.copyOf(tape, n);
        return true;
    }

    boolean put(int p, int kind, int a, int b) {
        boolean told = in(p, 0, 11) && in(kind, 0, 4)
            && (kind != 1 || in(a, 1, 100000))
            && (kind != 3 || (0 <= a && a <= b && b <= 399))
            && (kind != 4 || (in(a, 0, 11) && in(b, 0, 11)));
        if (told) {
            act();
            now.places[p] = new Gauge();
            now.places[p].kind = kind;
            now.places[p].a = a;
            now.places[p].b = b;
        }
        return told;
    }

    boolean plug(int p) {
        if (!in(p, 0, 11)) {
            return false;
        }
        act();
        now.places[p] = new Gauge();
        now.places[p].kind = 5;
        return true;
    }

    boolean take(int p) {
        if (!in(p, 0, 11) || now.places[p] == null) {
            return false;
        }
        act();
        now.places[p] = null;
        return true;
    }

    int kind(int p) {
        if (!in(p, 0, 11)) {
            return -2;
        }
        return now.places[p] == null ? -1 : now.places[p].kind;
    }

    private static int cell(byte[] bytes, int width) {
        double number;
        ByteBuffer b = ByteBuffer.wrap(bytes);
        if (bytes.length < new int[] {1, 2, 4, 8, 4, 8}[width]) {
            return GAP;
        }
        switch (width) {
            case 0: number = b.get(); break;
            case 1: number = b.getShort(); break;
            case 2: number = b.getInt(); break;
            case 3: number = b.getLong(); break;
            case 4: number = b.getFloat(); break;
            default: number = b.getDouble();
        }
        double cut = number < 0 ? Math.ceil(number) : Math.floor(number);
        return cut >= -1000000 && cut <= 1000000 ? (int) cut : GAP;
    }

    int read(int p, int width) {
        byte[] bytes = tape;
        tape = new byte[0];
        if (plain(p) == null) {
            return -1;
        }
        if (!in(width, 0, 5)) {
            return -2;
        }
        int size = new int[] {1, 2, 4, 8, 4, 8}[width];
        List<Integer> more = new ArrayList<>();
        for (int i = 0; i < bytes.length; i += size) {
            more.add(cell(Arrays.copyOfRange(bytes, i, Math.min(bytes.length, i + size)), width));
        }
        if (plain(p).cells.size() + more.size() > 400) {
            return -3;
        }
        act();
        Gauge g = plain(p);
        for (int x : more) {
            g.cells.add(g.kind == 3 && in(g.cells.size(), g.a, g.b) ? NOTHING : x);
        }
        return g.cells.size();
    }

    int tear(int p, int from, int to) {
        if (plain(p) == null || from > to || !in(from, 0, plain(p).cells.size() - 1)
                || !in(to, 0, plain(p).cells.size() - 1)) {
            return -1;
        }
        act();
        int went = 0;
        List<Integer> cells = plain(p).cells;
        for (int i = from; i <= to; i++) {
            if (cells.get(i) <= 1000000) {
                cells.set(i, GAP);
                went++;
            }
        }
        return went;
    }

    boolean fill(int p, int span, int reading) {
        if (plain(p) == null || !in(span, 0, plain(p).cells.size() - 1)
                || plain(p).cells.get(span) != GAP || !in(reading, -1000000, 1000000)) {
            return false;
        }
        act();
        plain(p).cells.set(span, reading);
        return true;
    }

    int row(int p, int what) {
        Gauge g = gauge(p);
        if (g == null || !in(what, 0, 6)) {
            return -1;
        }
        Found f = found(g, 0);
        return new int[] {cells(g).size(), f.gaps, f.readings, f.row.size(), f.turns.size(),
            f.cycles.size(), f.rest.size()}[what];
    }

    int span(int p, int span) {
        Gauge g = gauge(p);
        if (g == null || !in(span, 0, cells(g).size() - 1)) {
            throw new NoSuchElementException();
        }
        return cells(g).get(span);
    }

    int turn(int p, int sort, int k) {
        Gauge g = gauge(p);
        if (g == null || !in(sort, 0, 1)) {
            throw new NoSuchElementException();
        }
        Found f = found(g, 0);
        if (!in(k, 0, (sort == 0 ? f.turns : f.rest).size() - 1)) {
            throw new NoSuchElementException();
        }
        return sort == 0 ? f.turns.get(k) : f.turns.get(f.rest.get(k));
    }

    int cycle(int p, int k, int what) {
        Gauge g = gauge(p);
        if (g == null || !in(what, 0, 6) || !in(k, 0, found(g, 0).cycles.size() - 1)) {
            throw new NoSuchElementException();
        }
        Found f = found(g, 0);
        int[] c = f.cycles.get(k);
        int one = f.turns.get(c[0]);
        int other = f.turns.get(c[1]);
        return new int[] {one, other, c[0], c[1], c[2], Math.abs(one - other), one + other}[what];
    }

    int check(int p) {
        byte[] bytes = tape;
        tape = new byte[0];
        if (gauge(p) == null) {
            return -1;
        }
        Found f = found(gauge(p), 0);
        if (bytes.length % 2 != 0 || f.turns.size() > 256) {
            return -2;
        }
        Map<Integer, List<Integer>> told = new HashMap<>();
        for (int i = 0; i < bytes.length; i++) {
            if ((bytes[i] & 255) >= f.turns.size()) {
                return -2;
            }
            told.computeIfAbsent(bytes[i] & 255, t -> new ArrayList<>()).add(bytes[i ^ 1] & 255);
        }
        for (int t = 0; t < f.turns.size(); t++) {
            List<Integer> should = new ArrayList<>();
            for (int[] c : f.cycles) {
                if (c[0] == t || c[1] == t) {
                    should.add(c[0] + c[1] - t);
                }
            }
            if (!should.equals(told.getOrDefault(t, new ArrayList<>()))) {
                return 1 + t;
            }
        }
        return 0;
    }

    boolean detail(int d, int p) {
        if (part(d) == null || !in(p, -1, 11)) {
            return false;
        }
        act();
        part(d).place = p;
        return true;
    }

    int bound(int d, int range, int bears) {
        if (part(d) == null || !in(bears, 1, 10000000) || 720720000000L % bears != 0
                || part(d).bounds.size() == 6) {
            return -1;
        }
        List<int[]> b = part(d).bounds;
        if (range <= (b.isEmpty() ? 0 : b.get(b.size() - 1)[0])) {
            return -1;
        }
        act();
        part(d).bounds.add(new int[] {range, bears});
        return part(d).bounds.size();
    }

    int mean(int d, int mean, int percentage) {
        if (part(d) == null || !in(percentage, 10, 400) || part(d).means.size() == 4) {
            return -1;
        }
        List<int[]> m = part(d).means;
        if (!m.isEmpty() && mean <= m.get(m.size() - 1)[0]) {
            return -1;
        }
        act();
        part(d).means.add(new int[] {mean, percentage});
        return part(d).means.size();
    }

    boolean limit(int d, int limit) {
        if (part(d) == null || !in(limit, 0, 4000000)) {
            return false;
        }
        act();
        part(d).limit = limit;
        return true;
    }

    boolean worst(int d, int range) {
        if (part(d) == null || !in(range, 0, 4000000)) {
            return false;
        }
        act();
        part(d).worst = range;
        return true;
    }

    boolean crack(int d, int length, int threshold) {
        if (part(d) == null || !in(length, 0, 1000000) || !in(threshold, 0, 4000000)) {
            return false;
        }
        act();
        part(d).crack = length;
        part(d).threshold = threshold;
        return true;
    }

    int step(int d, int length, int by) {
        if (part(d) == null || length < 0 || !in(by, 0, 1000000) || part(d).steps.size() == 4) {
            return -1;
        }
        List<int[]> s = part(d).steps;
        if (!s.isEmpty() && length <= s.get(s.size() - 1)[0]) {
            return -1;
        }
        act();
        part(d).steps.add(new int[] {length, by});
        return part(d).steps.size();
    }

    int mend(int d) {
        if (part(d) == null) {
            return -1;
        }
        act();
        Gauge g = gauge(part(d).place);
        part(d).beginning = g == null ? 0 : cells(g).size();
        part(d).crack = -1;
        return part(d).beginning;
    }

    long damage(int d, int sort, int what) {
        if (part(d) == null || !in(sort, 0, 1) || !in(what, 0, 2)) {
            throw new NoSuchElementException();
        }
        BigInteger[] w = wear(part(d))[7 + sort];
        return what == 2 ? (w[0].compareTo(w[1]) >= 0 ? 1 : 0) : w[what].longValueExact();
    }

    long part(int d, int i) {
        if (part(d) == null || (i != 6 && !in(i, 0, part(d).bounds.size() - 1))) {
            throw new NoSuchElementException();
        }
        BigInteger[] w = wear(part(d))[i];
        BigInteger[] whole = w[0].multiply(BigInteger.valueOf(1441440000000L)).divideAndRemainder(w[1]);
        if (whole[1].signum() != 0) {
            throw new IllegalStateException("a part is not whole");
        }
        return whole[0].longValueExact();
    }

    int parts(int d, int k) {
        if (part(d) == null) {
            throw new NoSuchElementException();
        }
        BigInteger[][] w = wear(part(d));
        List<Integer> order = new ArrayList<>();
        for (int i = 0; i <= 6; i++) {
            if (w[i][0].signum() > 0) {
                order.add(i);
            }
        }
        order.sort((x, y) -> w[y][0].multiply(w[x][1]).compareTo(w[x][0].multiply(w[y][1])));
        return in(k, 0, order.size() - 1) ? order.get(k) : -1;
    }

    int left(int d, int days) {
        if (part(d) == null || !in(days, 1, 100000)) {
            return -1;
        }
        BigInteger[] w = wear(part(d))[7];
        if (w[0].signum() == 0) {
            return -1;
        }
        // The first day x with w * (days + x) / days >= 1, found by halving.
        BigInteger low = BigInteger.ZERO;
        BigInteger high = BigInteger.ONE.shiftLeft(80);
        while (low.compareTo(high) < 0) {
            BigInteger x = low.add(high).shiftRight(1);
            BigInteger reached = w[0].multiply(x.add(BigInteger.valueOf(days)));
            if (reached.compareTo(w[1].multiply(BigInteger.valueOf(days))) >= 0) {
                high = x;
            } else {
                low = x.add(BigInteger.ONE);
            }
        }
        return low.min(BigInteger.valueOf(2147483647L)).intValueExact();
    }

    int length(int d) {
        if (part(d) == null || part(d).crack < 0) {
            return -1;
        }
        Part x = part(d);
        int length = x.crack;
        Gauge g = gauge(x.place);
        if (g != null) {
            Found f = found(g, x.beginning);
            for (int[] c : f.cycles) {
                if (effect(x, f.turns.get(c[0]), f.turns.get(c[1])) > x.threshold) {
                    length = grown(x, length);
                }
            }
        }
        return length;
    }

    int due(int d, int n, int seen, int end, int every) {
        if (length(d) < 0 || !in(n, 1, 1000) || !in(every, 1, 10000) || seen < 0 || end < 0
                || seen > end) {
            return -1;
        }
        int length = length(d);
        int first = length >= seen ? 0 : -1;
        int last = length >= end ? 0 : -1;
        for (int c = 1; c <= 100000 && last < 0; c++) {
            length = grown(part(d), length);
            int day = (c - 1) / n + 1;
            if (first < 0 && length >= seen) {
                first = day;
            }
            if (length >= end) {
                last = day;
            }
        }
        for (int day = last; last >= 0 && day >= first; day--) {
            if (day < last && day + every < last) {
                return day;
            }
        }
        return -1;
    }

    boolean undo() {
        if (before == null) {
            return false;
        }
        now = before;
        before = null;
        return true;
    }

    boolean image() {
        boolean had = picture != null;
        picture = now.copy();
        return had;
    }

    boolean again() {
        if (picture == null) {
            return false;
        }
        now = picture.copy();
        before = null;
        return true;
    }

    int count(int what) {
        int gauges = 0;
        int plugs = 0;
        for (Gauge g : now.places) {
            gauges += g != null && g.kind != 5 ? 1 : 0;
            plugs += g != null && g.kind == 5 ? 1 : 0;
        }
        return in(what, 0, 4)
            ? new int[] {tape.length, gauges, plugs, before == null ? 0 : 1, picture == null ? 0 : 1}[what]
            : -1;
    }
}
