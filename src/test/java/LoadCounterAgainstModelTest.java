import java.util.NoSuchElementException;
import java.util.Random;

/** Makes the same calls on LoadCounter and on LoadCounterModel, from fixed seeds, and compares. */
public final class LoadCounterAgainstModelTest {
    private static final long THROWN = Long.MIN_VALUE;
    private static final String[] NAMES = {
        "feed", "end", "put", "plug", "take", "kind", "read", "tear", "fill", "row", "span", "turn",
        "cycle", "check", "detail", "bound", "mean", "limit", "worst", "crack", "step", "mend",
        "damage", "part", "parts", "left", "length", "due", "undo", "image", "again", "count"};
    private static final int[] OFTEN = {
        40, 6, 14, 1, 1, 2, 40, 6, 10, 20, 12, 20,
        20, 12, 14, 16, 8, 6, 5, 10, 10, 3,
        30, 20, 16, 14, 12, 30, 8, 2, 3, 6};
    private static final int[] BEARS = {
        1, 2, 3, 7, 10, 100, 1001, 9600, 10000000, 720720, 17, 0, -1, 10000001, 20000000, 64, 9009};

    private final Random random;
    private final int scale;
    private final StringBuilder story = new StringBuilder();
    private LoadCounter real;
    private LoadCounterModel model;

    private LoadCounterAgainstModelTest(long seed) {
        random = new Random(seed);
        int[] scales = {3, 12, 100, 5000, 500000, 1000000};
        scale = scales[(int) (seed % scales.length)];
    }

    private int any(int lo, int hi) {
        return lo + random.nextInt(hi - lo + 1);
    }

    private boolean rarely() {
        return random.nextInt(25) == 0;
    }

    private int wild() {
        int[] some = {Integer.MIN_VALUE, Integer.MAX_VALUE, -1, -2, 0, 1, 6, 12, 400, 1000000, 1000001,
            4000000, 4000001, -1000001};
        return some[random.nextInt(some.length)];
    }

    private int place() {
        return rarely() ? any(-2, 13) : any(0, 4);
    }

    private int load() {
        return rarely() ? random.nextInt() : any(-scale, scale);
    }

    private int bytesToFeed(int sort) {
        switch (sort) {
            case 0:
                return any(0, 255) << 24 | any(-3, 3) << 16 & 0xff0000 | any(0, 5) << 8 | any(0, 255);
            case 1:
                return any(-scale, scale) << 16 | load() & 65535;
            case 2:
                return load();
            case 4:
                return Float.floatToRawIntBits(load() + any(-9, 9) / 10f);
            default:
                return random.nextInt();
        }
    }

    private int[] feedArguments() {
        int sort = any(0, 5);
        int[] x = new int[5];
        for (int i = 0; i < 5; i++) {
            x[i] = bytesToFeed(sort);
        }
        if (sort == 5) {
            long bits = Double.doubleToRawLongBits(load() + any(-9, 9) / 10.0);
            x[0] = (int) (bits >> 32);
            x[1] = (int) bits;
            x[2] = (int) (Double.doubleToRawLongBits(load() / 3.0) >> 32);
        }
        if (sort == 3) {
            long whole = load();
            x[0] = (int) (whole >> 32);
            x[1] = (int) whole;
            x[2] = rarely() ? 1 : 0;
            x[3] = any(0, scale);
        }
        return x;
    }

    private int[] argumentsFor(int name) {
        if (rarely() && rarely()) {
            return new int[] {rarely() ? wild() : place(), wild(), wild(), wild(), wild()};
        }
        switch (NAMES[name]) {
            case "feed": return feedArguments();
            case "end": return new int[] {any(-1, rarely() ? 420 : 20)};
            case "put": return new int[] {place(), rarely() ? any(-1, 6) : any(0, 4),
                any(0, rarely() ? 100001 : 11), any(0, rarely() ? 401 : 11)};
            case "read": return new int[] {place(), rarely() ? any(-1, 7) : any(0, 5)};
            case "tear": return new int[] {place(), any(-1, 30), any(0, 40)};
            case "fill": return new int[] {place(), any(-1, 40), load()};
            case "row": return new int[] {place(), any(-1, 7)};
            case "span": return new int[] {place(), any(-1, rarely() ? 401 : 40)};
            case "turn": return new int[] {place(), rarely() ? any(-1, 3) : any(0, 1), any(-1, 40)};
            case "cycle": return new int[] {place(), any(-1, 12), any(-1, 7)};
            case "detail": return new int[] {any(0, 3), place()};
            case "bound": return new int[] {any(0, 3), any(0, 2 * scale), BEARS[any(0, BEARS.length - 1)]};
            case "mean": return new int[] {any(0, 3), any(-2 * scale, 2 * scale), any(9, 401)};
            case "limit": case "worst": return new int[] {any(0, 3), rarely() ? wild() : any(0, scale)};
            case "crack": return new int[] {any(0, 3), any(-1, 1000000) / any(1, 1000), any(0, scale)};
            case "step": return new int[] {any(0, 3), any(-1, 2000000) / any(1, 1000),
                any(0, 1000000) / any(1, 100000)};
            case "damage": return new int[] {any(0, 3), rarely() ? any(-1, 2) : any(0, 1),
                rarely() ? any(-1, 3) : any(0, 2)};
            case "part": return new int[] {any(0, 3), any(-1, 7)};
            case "parts": return new int[] {any(0, 3), any(-1, 4)};
            case "left": return new int[] {any(0, 3), rarely() ? any(-1, 100001) : any(1, 1000)};
            case "due": return new int[] {any(0, 3), rarely() ? any(-1, 1001) : any(1, 20),
                any(-1, 100000) / any(1, 100), any(0, 2000000) / any(1, 100),
                rarely() ? any(-1, 10001) : any(1, 30)};
            case "count": return new int[] {any(-1, 5)};
            default: return new int[] {rarely() ? any(-2, 13) : any(0, 4)};
        }
    }

    private static long bool(boolean b) {
        return b ? 1 : 0;
    }

    private long onReal(int name, int[] x) {
        LoadCounter o = real;
        switch (NAMES[name]) {
            case "feed": return o.feed(x[0], x[1], x[2], x[3], x[4]);
            case "end": return bool(o.end(x[0]));
            case "put": return bool(o.put(x[0], x[1], x[2], x[3]));
            case "plug": return bool(o.plug(x[0]));
            case "take": return bool(o.take(x[0]));
            case "kind": return o.kind(x[0]);
            case "read": return o.read(x[0], x[1]);
            case "tear": return o.tear(x[0], x[1], x[2]);
            case "fill": return bool(o.fill(x[0], x[1], x[2]));
            case "row": return o.row(x[0], x[1]);
            case "span": return o.span(x[0], x[1]);
            case "turn": return o.turn(x[0], x[1], x[2]);
            case "cycle": return o.cycle(x[0], x[1], x[2]);
            case "check": return o.check(x[0]);
            case "detail": return bool(o.detail(x[0], x[1]));
            case "bound": return o.bound(x[0], x[1], x[2]);
            case "mean": return o.mean(x[0], x[1], x[2]);
            case "limit": return bool(o.limit(x[0], x[1]));
            case "worst": return bool(o.worst(x[0], x[1]));
            case "crack": return bool(o.crack(x[0], x[1], x[2]));
            case "step": return o.step(x[0], x[1], x[2]);
            case "mend": return o.mend(x[0]);
            case "damage": return o.damage(x[0], x[1], x[2]);
            case "part": return o.part(x[0], x[1]);
            case "parts": return o.parts(x[0], x[1]);
            case "left": return o.left(x[0], x[1]);
            case "length": return o.length(x[0]);
            case "due": return o.due(x[0], x[1], x[2], x[3], x[4]);
            case "undo": return bool(o.undo());
            case "image": return bool(o.image());
            case "again": return bool(o.again());
            default: return o.count(x[0]);
        }
    }

    private long onModel(int name, int[] x) {
        LoadCounterModel o = model;
        switch (NAMES[name]) {
            case "feed": return o.feed(x[0], x[1], x[2], x[3], x[4]);
            case "end": return bool(o.end(x[0]));
            case "put": return bool(o.put(x[0], x[1], x[2], x[3]));
            case "plug": return bool(o.plug(x[0]));
            case "take": return bool(o.take(x[0]));
            case "kind": return o.kind(x[0]);
            case "read": return o.read(x[0], x[1]);
            case "tear": return o.tear(x[0], x[1], x[2]);
            case "fill": return bool(o.fill(x[0], x[1], x[2]));
            case "row": return o.row(x[0], x[1]);
            case "span": return o.span(x[0], x[1]);
            case "turn": return o.turn(x[0], x[1], x[2]);
            case "cycle": return o.cycle(x[0], x[1], x[2]);
            case "check": return o.check(x[0]);
            case "detail": return bool(o.detail(x[0], x[1]));
            case "bound": return o.bound(x[0], x[1], x[2]);
            case "mean": return o.mean(x[0], x[1], x[2]);
            case "limit": return bool(o.limit(x[0], x[1]));
            case "worst": return bool(o.worst(x[0], x[1]));
            case "crack": return bool(o.crack(x[0], x[1], x[2]));
            case "step": return o.step(x[0], x[1], x[2]);
            case "mend": return o.mend(x[0]);
            case "damage": return o.damage(x[0], x[1], x[2]);
            case "part": return o.part(x[0], x[1]);
            case "parts": return o.parts(x[0], x[1]);
            case "left": return o.left(x[0], x[1]);
            case "length": return o.length(x[0]);
            case "due": return o.due(x[0], x[1], x[2], x[3], x[4]);
            case "undo": return bool(o.undo());
            case "image": return bool(o.image());
            case "again": return bool(o.again());
            default: return o.count(x[0]);
        }
    }

    private boolean agree(int name, int[] x) {
        long got;
        long due;
        try {
            got = onReal(name, x);
        } catch (NoSuchElementException e) {
            got = THROWN;
        }
        try {
            due = onModel(name, x);
        } catch (NoSuchElementException e) {
            due = THROWN;
        }
        story.append(NAMES[name]).append(java.util.Arrays.toString(x)).append(" -> ").append(got).append('\n');
        if (got != due) {
            story.append("   due is ").append(due).append('\n');
        }
        return got == due;
    }

    private int pick() {
        int all = 0;
        for (int o : OFTEN) {
            all += o;
        }
        int at = random.nextInt(all);
        int name = 0;
        while (at >= OFTEN[name]) {
            at -= OFTEN[name];
            name++;
        }
        return name;
    }

    /** Now and then the tape tells the very CYCLES of a place, with one byte wrong at times. */
    private boolean checkOfCycles() {
        int p = place();
        int cycles = model.row(p, 5);
        if (cycles < 1 || cycles > 50) {
            return true;
        }
        byte[] bytes = new byte[(2 * cycles + 19) / 20 * 20];
        for (int k = 0; k < cycles; k++) {
            boolean turned = random.nextBoolean();
            bytes[2 * (cycles - 1 - k)] = (byte) model.cycle(p, k, turned ? 3 : 2);
            bytes[2 * (cycles - 1 - k) + 1] = (byte) model.cycle(p, k, turned ? 2 : 3);
        }
        if (random.nextBoolean()) {
            bytes[any(0, 2 * cycles - 1)] = (byte) any(0, model.row(p, 4));
        }
        java.nio.ByteBuffer b = java.nio.ByteBuffer.wrap(bytes);
        boolean good = agree(1, new int[] {0});
        while (b.remaining() > 0) {
            good &= agree(0, new int[] {b.getInt(), b.getInt(), b.getInt(), b.getInt(), b.getInt()});
        }
        return good & agree(1, new int[] {2 * cycles}) & agree(13, new int[] {p});
    }

    private boolean run(int calls) {
        real = new LoadCounter();
        model = new LoadCounterModel();
        for (int i = 0; i < calls; i++) {
            int name = pick();
            boolean good = NAMES[name].equals("check") && random.nextBoolean()
                ? checkOfCycles() : agree(name, argumentsFor(name));
            if (!good) {
                return false;
            }
        }
        return true;
    }

    public static void main(String[] args) {
        int runs = args.length > 1 ? Integer.parseInt(args[1]) : 1500;
        int wrong = 0;
        for (int seed = 0; seed < runs && wrong < 3; seed++) {
            LoadCounterAgainstModelTest test = new LoadCounterAgainstModelTest(seed);
            if (!test.run(480)) {
                wrong++;
                System.out.println("seed " + seed + ":\n" + test.story);
            }
        }
        System.out.println((runs - wrong) + " passed, " + wrong + " failed");
        if (wrong != 0) {
            System.exit(1);
        }
    }
}
