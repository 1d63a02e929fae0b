import java.util.NoSuchElementException;

/**
 * Reads loads on a board of gauges, finds the cycles in them as they nest, and tells how much of
 * a detail's life they used up, how its crack grew, and when one must look at it in time.
 */
public final class LoadCounter {
    public static final int NONE = -1;

    private static final int PLACES = 12;
    private static final int DETAILS = 12;
    private static final int MOST_SPANS = 400;
    private static final int MOST_BYTES = 400;
    private static final int BYTES_FED = 20;

    private static final int EXTREME = 1000000;
    private static final int GAP = 2000000;
    private static final int NOTHING = 3000000;

    private static final int NO_PLACE = -2;
    private static final int EMPTY = -1;
    private static final int STEP = 1;
    private static final int PEAK = 2;
    private static final int DUMB = 3;
    private static final int SUM = 4;
    private static final int PLUG = 5;
    private static final int MOST_SIZE = 100000;

    private static final int FLOATS = 4;
    private static final int DOUBLES = 5;
    private static final int[] BYTES_OF_WIDTH = {1, 2, 4, 8, 4, 8};

    private static final int BOUNDS = 6;
    private static final int MEANS = 4;
    private static final int STEPS = 4;
    private static final int MOST_BEARS = 10000000;
    private static final long BEARS_DIVIDE = 720720000000L;
    /** A whole life in units so small that half of each 1 / BEARS is a whole number of them. */
    private static final long LIFE = 2 * BEARS_DIVIDE;
    private static final int MOST_EFFECT = 4000000;
    private static final int MOST_NEW_CRACK = 1000000;
    private static final int MOST_GROWTH = 1000000;
    private static final int MOST_LENGTH = 1000000000;

    private static final int MOST_DAYS = 100000;
    private static final long MOST_DAYS_LEFT = 2147483647L;
    private static final int MOST_CYCLES_A_DAY = 1000;
    private static final int MOST_DAYS_BETWEEN = 10000;
    private static final int MOST_CYCLES_AHEAD = 100000;

    private static final int REFUSED_NO_GAUGE = -1;
    private static final int REFUSED_WIDTH = -2;
    private static final int REFUSED_TOO_MANY = -3;
    private static final int REFUSED_CHECK = -2;
    private static final int MOST_TURNS_CHECKED = 256;
    private static final int TOLD_TWICE = -2;

    private final Tape tape = new Tape();
    private final Board board = new Board();
    private final Row row = new Row();
    private final Wear wear = new Wear();
    private final Checker checker = new Checker();
    private Board picture;

    // An ACT changes one PLACE or one DETAIL, so what it was before is all that undo needs.
    private final Place placeBefore = new Place();
    private final Detail detailBefore = new Detail();
    private int undoPlace = NONE;
    private int undoDetail = NONE;

    public LoadCounter() {
    }

    public int feed(int a, int b, int c, int d, int e) {
        if (!tape.hasRoom(BYTES_FED)) {
            return NONE;
        }
        tape.append(a);
        tape.append(b);
        tape.append(c);
        tape.append(d);
        tape.append(e);
        return tape.used;
    }

    public boolean end(int n) {
        if (n < 0 || n > tape.used) {
            return false;
        }
        tape.used = n;
        return true;
    }

    public boolean put(int p, int kind, int a, int b) {
        Place place = board.placeAt(p);
        if (place == null || !isGaugeAsTold(kind, a, b)) {
            return false;
        }
        keepPlace(p, place);
        place.become(kind, a, b);
        return true;
    }

    public boolean plug(int p) {
        Place place = board.placeAt(p);
        if (place == null) {
            return false;
        }
        keepPlace(p, place);
        place.become(PLUG, 0, 0);
        return true;
    }

    public boolean take(int p) {
        Place place = board.placeAt(p);
        if (place == null || place.kind == EMPTY) {
            return false;
        }
        keepPlace(p, place);
        place.become(EMPTY, 0, 0);
        return true;
    }

    public int kind(int p) {
        Place place = board.placeAt(p);
        return place == null ? NO_PLACE : place.kind;
    }

    public int read(int p, int width) {
        int result = readTape(p, width);
        tape.used = 0;
        return result;
    }

    public int tear(int p, int from, int to) {
        Place gauge = board.fedGaugeAt(p);
        if (gauge == null || from < 0 || from > to || to >= gauge.spans) {
            return NONE;
        }
        keepPlace(p, gauge);
        return gauge.tearOut(from, to);
    }

    public boolean fill(int p, int span, int reading) {
        Place gauge = board.fedGaugeAt(p);
        if (gauge == null || !isWithin(reading, -EXTREME, EXTREME) || !gauge.hasGap(span)) {
            return false;
        }
        keepPlace(p, gauge);
        gauge.set(span, reading);
        return true;
    }

    public int row(int p, int what) {
        Place gauge = board.gaugeAt(p);
        if (gauge == null) {
            return NONE;
        }
        row.reckon(board, gauge, 0);
        switch (what) {
            case 0:
                return board.spansOf(gauge);
            case 1:
                return row.gaps;
            case 2:
                return row.readings;
            case 3:
                return row.length;
            case 4:
                return row.turnCount;
            case 5:
                return row.cycleCount;
            case 6:
                return row.restCount;
            default:
                return NONE;
        }
    }

    public int span(int p, int span) throws NoSuchElementException {
        Place gauge = board.gaugeAt(p);
        if (gauge == null || span < 0 || span >= board.spansOf(gauge)) {
            throw new NoSuchElementException("no such span");
        }
        return board.cellOf(gauge, span);
    }

    public int turn(int p, int sort, int k) throws NoSuchElementException {
        Place gauge = board.gaugeAt(p);
        if (gauge == null || sort < 0 || sort > 1) {
            throw new NoSuchElementException("no such turn");
        }
        row.reckon(board, gauge, 0);
        int count = sort == 0 ? row.turnCount : row.restCount;
        if (k < 0 || k >= count) {
            throw new NoSuchElementException("no such turn");
        }
        return row.turnAt(sort == 0 ? k : row.restAt(k));
    }

    public int cycle(int p, int k, int what) throws NoSuchElementException {
        Place gauge = board.gaugeAt(p);
        if (gauge == null || what < 0 || what > 6) {
            throw new NoSuchElementException("no such cycle");
        }
        row.reckon(board, gauge, 0);
        if (k < 0 || k >= row.cycleCount) {
            throw new NoSuchElementException("no such cycle");
        }
        return ofCycle(k, what);
    }

    public int check(int p) {
        int result = checkTape(p);
        tape.used = 0;
        return result;
    }

    public boolean detail(int d, int p) {
        Detail detail = board.detailAt(d);
        if (detail == null || (p != NONE && board.placeAt(p) == null)) {
            return false;
        }
        keepDetail(d, detail);
        detail.place = p;
        return true;
    }

    public int bound(int d, int range, int bears) {
        Detail detail = board.detailAt(d);
        if (detail == null || range <= 0 || !isBearsAsTold(bears) || !detail.bounds.takes(range)) {
            return NONE;
        }
        keepDetail(d, detail);
        return detail.bounds.add(range, bears);
    }

    public int mean(int d, int mean, int percentage) {
        Detail detail = board.detailAt(d);
        if (detail == null || !isWithin(percentage, 10, 400) || !detail.means.takes(mean)) {
            return NONE;
        }
        keepDetail(d, detail);
        return detail.means.add(mean, percentage);
    }

    public boolean limit(int d, int limit) {
        Detail detail = board.detailAt(d);
        if (detail == null || !isWithin(limit, 0, MOST_EFFECT)) {
            return false;
        }
        keepDetail(d, detail);
        detail.limit = limit;
        return true;
    }

    public boolean worst(int d, int range) {
        Detail detail = board.detailAt(d);
        if (detail == null || !isWithin(range, 0, MOST_EFFECT)) {
            return false;
        }
        keepDetail(d, detail);
        detail.worst = range;
        return true;
    }

    public boolean crack(int d, int length, int threshold) {
        Detail detail = board.detailAt(d);
        if (detail == null || !isWithin(length, 0, MOST_NEW_CRACK)
                || !isWithin(threshold, 0, MOST_EFFECT)) {
            return false;
        }
        keepDetail(d, detail);
        detail.crack = length;
        detail.threshold = threshold;
        return true;
    }

    public int step(int d, int length, int by) {
        Detail detail = board.detailAt(d);
        if (detail == null || length < 0 || !isWithin(by, 0, MOST_GROWTH)
                || !detail.steps.takes(length)) {
            return NONE;
        }
        keepDetail(d, detail);
        return detail.steps.add(length, by);
    }

    public int mend(int d) {
        Detail detail = board.detailAt(d);
        if (detail == null) {
            return NONE;
        }
        keepDetail(d, detail);
        Place gauge = board.gaugeAt(detail.place);
        detail.beginning = gauge == null ? 0 : board.spansOf(gauge);
        detail.crack = NONE;
        return detail.beginning;
    }

    public long damage(int d, int sort, int what) throws NoSuchElementException {
        Detail detail = board.detailAt(d);
        if (detail == null || sort < 0 || sort > 1 || what < 0 || what > 2) {
            throw new NoSuchElementException("no such damage");
        }
        reckonWear(detail);
        long used = sort == 0 ? wear.least : wear.most;
        if (what == 2) {
            return used >= LIFE ? 1 : 0;
        }
        long common = greatestCommonDivisor(used, LIFE);
        if (common < 1) {
            return 0;
        }
        return what == 0 ? used / common : LIFE / common;
    }

    public long part(int d, int i) throws NoSuchElementException {
        Detail detail = board.detailAt(d);
        if (detail == null || i < 0 || (i != BOUNDS && i >= detail.bounds.count)) {
            throw new NoSuchElementException("no such part");
        }
        reckonWear(detail);
        return wear.partOf(i);
    }

    public int parts(int d, int k) throws NoSuchElementException {
        Detail detail = board.detailAt(d);
        if (detail == null) {
            throw new NoSuchElementException("no such detail");
        }
        reckonWear(detail);
        for (int bound = 0; bound <= BOUNDS; bound++) {
            if (wear.partOf(bound) > 0 && wear.partsAheadOf(bound) == k) {
                return bound;
            }
        }
        return NONE;
    }

    public int left(int d, int days) {
        Detail detail = board.detailAt(d);
        if (detail == null || !isWithin(days, 1, MOST_DAYS)) {
            return NONE;
        }
        reckonWear(detail);
        long used = wear.least;
        if (used < 1) {
            return NONE;
        }
        if (used >= LIFE) {
            return 0;
        }
        long further = ((LIFE - used) * days + used - 1) / used;
        return (int) Math.min(further, MOST_DAYS_LEFT);
    }

    public int length(int d) {
        Detail detail = board.detailAt(d);
        return detail == null || detail.crack == NONE ? NONE : crackLength(detail);
    }

    public int due(int d, int n, int seen, int end, int every) {
        Detail detail = board.detailAt(d);
        if (detail == null || detail.crack == NONE || seen < 0 || seen > end
                || !isWithin(n, 1, MOST_CYCLES_A_DAY) || !isWithin(every, 1, MOST_DAYS_BETWEEN)) {
            return NONE;
        }
        int length = crackLength(detail);
        long toSeen = detail.cyclesUntil(length, seen);
        long toEnd = detail.cyclesUntil(length, end);
        if (toSeen < 0 || toEnd < 0 || toEnd > MOST_CYCLES_AHEAD) {
            return NONE;
        }
        long lastDay = firstDayWith(toEnd, n) - every - 1;
        return lastDay >= firstDayWith(toSeen, n) ? (int) lastDay : NONE;
    }

    public boolean undo() {
        Place place = board.placeAt(undoPlace);
        Detail detail = board.detailAt(undoDetail);
        boolean undone = place != null || detail != null;
        if (place != null) {
            place.copyFrom(placeBefore);
        }
        if (detail != null) {
            detail.copyFrom(detailBefore);
        }
        forgetUndo();
        return undone;
    }

    public boolean image() {
        boolean had = picture != null;
        if (picture == null) {
            picture = new Board();
        }
        picture.copyFrom(board);
        return had;
    }

    public boolean again() {
        if (picture == null) {
            return false;
        }
        board.copyFrom(picture);
        forgetUndo();
        return true;
    }

    public int count(int what) {
        switch (what) {
            case 0:
                return tape.used;
            case 1:
                return board.gauges();
            case 2:
                return board.plugs();
            case 3:
                return undoPlace != NONE || undoDetail != NONE ? 1 : 0;
            case 4:
                return picture != null ? 1 : 0;
            default:
                return NONE;
        }
    }

    private static boolean isWithin(long number, int least, int most) {
        return number >= least && number <= most;
    }

    private static boolean isGaugeAsTold(int kind, int a, int b) {
        switch (kind) {
            case STEP:
                return isWithin(a, 1, MOST_SIZE);
            case DUMB:
                return a >= 0 && a <= b && b < MOST_SPANS;
            case SUM:
                return isWithin(a, 0, PLACES - 1) && isWithin(b, 0, PLACES - 1);
            default:
                return kind >= 0 && kind <= SUM;
        }
    }

    private static boolean isBearsAsTold(int bears) {
        return bears >= 1 && bears <= MOST_BEARS && BEARS_DIVIDE % bears == 0;
    }

    private static long greatestCommonDivisor(long a, long b) {
        long greater = a;
        long lesser = b;
        // Euclid halves the numbers in two rounds, so 64 bits are used up long before the bound.
        for (int round = 0; round < 200 && lesser != 0; round++) {
            long remainder = greater % lesser;
            greater = lesser;
            lesser = remainder;
        }
        return greater;
    }

    private static long firstDayWith(long cycles, int cyclesADay) {
        return cyclesADay < 1 ? 0 : (cycles + cyclesADay - 1) / cyclesADay;
    }

    private void keepPlace(int p, Place place) {
        placeBefore.copyFrom(place);
        undoPlace = p;
        undoDetail = NONE;
    }

    private void keepDetail(int d, Detail detail) {
        detailBefore.copyFrom(detail);
        undoDetail = d;
        undoPlace = NONE;
    }

    private void forgetUndo() {
        undoPlace = NONE;
        undoDetail = NONE;
    }

    private int readTape(int p, int width) {
        Place gauge = board.fedGaugeAt(p);
        if (gauge == null) {
            return REFUSED_NO_GAUGE;
        }
        if (width < 0 || width >= BYTES_OF_WIDTH.length) {
            return REFUSED_WIDTH;
        }
        int size = BYTES_OF_WIDTH[width];
        if (size < 1) {
            return REFUSED_WIDTH;
        }
        int numbers = (tape.used + size - 1) / size;
        if (gauge.spans + numbers > MOST_SPANS) {
            return REFUSED_TOO_MANY;
        }
        keepPlace(p, gauge);
        for (int i = 0; i < numbers; i++) {
            gauge.add(tape.readingAt(i * size, size, width));
        }
        return gauge.spans;
    }

    private int ofCycle(int k, int what) {
        int first = row.firstOf(k);
        int second = row.secondOf(k);
        switch (what) {
            case 0:
                return row.turnAt(first);
            case 1:
                return row.turnAt(second);
            case 2:
                return first;
            case 3:
                return second;
            case 4:
                return row.closerOf(k);
            case 5:
                return row.rangeOf(first, second);
            default:
                return row.meanOf(first, second);
        }
    }

    private int checkTape(int p) {
        Place gauge = board.gaugeAt(p);
        if (gauge == null) {
            return NONE;
        }
        row.reckon(board, gauge, 0);
        if (row.turnCount > MOST_TURNS_CHECKED || tape.used % 2 != 0) {
            return REFUSED_CHECK;
        }
        for (int i = 0; i < tape.used; i++) {
            if (tape.byteAt(i) >= row.turnCount) {
                return REFUSED_CHECK;
            }
        }
        checker.begin();
        for (int k = 0; k < row.cycleCount; k++) {
            checker.pair(row.firstOf(k), row.secondOf(k));
        }
        for (int i = 0; i + 1 < tape.used; i += 2) {
            checker.tell(tape.byteAt(i), tape.byteAt(i + 1));
        }
        return 1 + checker.leastWrong(row.turnCount);
    }

    private void reckonWear(Detail detail) {
        wear.begin();
        Place gauge = board.gaugeAt(detail.place);
        if (gauge != null) {
            row.reckon(board, gauge, detail.beginning);
            wear.reckon(detail, row);
        }
    }

    private int crackLength(Detail detail) {
        int length = detail.crack;
        Place gauge = board.gaugeAt(detail.place);
        if (gauge == null) {
            return length;
        }
        row.reckon(board, gauge, detail.beginning);
        for (int k = 0; k < row.cycleCount; k++) {
            if (detail.effectOf(row, row.firstOf(k), row.secondOf(k)) > detail.threshold) {
                length = Math.min(length + detail.growthAt(length), MOST_LENGTH);
            }
        }
        return length;
    }

    private static final class Tape {
        final byte[] bytes = new byte[MOST_BYTES];
        int used;

        boolean hasRoom(int more) {
            return more <= bytes.length - used;
        }

        void append(int number) {
            for (int shift = 24; shift >= 0; shift -= 8) {
                if (used >= 0 && used < bytes.length) {
                    bytes[used] = (byte) (number >> shift);
                    used++;
                }
            }
        }

        int byteAt(int at) {
            return at >= 0 && at < used && at < bytes.length ? bytes[at] & 255 : 0;
        }

        int readingAt(int at, int size, int width) {
            if (at + size > used) {
                return GAP;
            }
            long bits = bitsAt(at, size);
            switch (width) {
                case FLOATS:
                    return cutFloating(bits, 8, 23);
                case DOUBLES:
                    return cutFloating(bits, 11, 52);
                default:
                    return readingOrGap(bits);
            }
        }

        private long bitsAt(int at, int size) {
            long bits = 0;
            for (int i = 0; i < size; i++) {
                bits = (bits << 8) | byteAt(at + i);
            }
            int above = 64 - 8 * size;
            return (bits << above) >> above;
        }

        /** Taken apart by its bits, since the language here has no call that makes a double of them. */
        private static int cutFloating(long bits, int exponentBits, int fractionBits) {
            int bias = (1 << (exponentBits - 1)) - 1;
            int exponent = (int) (bits >>> fractionBits) & ((1 << exponentBits) - 1);
            int power = exponent - bias;
            if (power < 0) {
                return 0;
            }
            // From 2 to the 20th on all are beyond, with infinities and what is no number.
            if (power >= 20) {
                return GAP;
            }
            long fraction = bits & ((1L << fractionBits) - 1);
            long whole = (fraction | (1L << fractionBits)) >> (fractionBits - power);
            boolean negative = ((bits >>> (fractionBits + exponentBits)) & 1) != 0;
            return readingOrGap(negative ? -whole : whole);
        }

        static int readingOrGap(long number) {
            return isWithin(number, -EXTREME, EXTREME) ? (int) number : GAP;
        }
    }

    /** A Sum keeps no cells of its own, since those that it adds may change at any call. */
    private static final class Place {
        final int[] cells = new int[MOST_SPANS];
        int kind = EMPTY;
        int a;
        int b;
        int spans;

        void become(int newKind, int newA, int newB) {
            kind = newKind;
            a = newA;
            b = newB;
            spans = 0;
        }

        boolean isGauge() {
            return kind >= 0 && kind <= SUM;
        }

        void add(int cell) {
            if (spans >= 0 && spans < cells.length) {
                boolean dumb = kind == DUMB && spans >= a && spans <= b;
                cells[spans] = dumb ? NOTHING : cell;
                spans++;
            }
        }

        int cellAt(int span) {
            return span >= 0 && span < spans && span < cells.length ? cells[span] : NOTHING;
        }

        void set(int span, int cell) {
            if (span >= 0 && span < spans && span < cells.length) {
                cells[span] = cell;
            }
        }

        boolean hasGap(int span) {
            return cellAt(span) == GAP;
        }

        int tearOut(int from, int to) {
            int gone = 0;
            for (int span = from; span <= to && span < spans; span++) {
                int cell = cellAt(span);
                if (cell != GAP && cell != NOTHING) {
                    set(span, GAP);
                    gone++;
                }
            }
            return gone;
        }

        void copyFrom(Place other) {
            kind = other.kind;
            a = other.a;
            b = other.b;
            spans = other.spans;
            for (int i = 0; i < spans && i < cells.length && i < other.cells.length; i++) {
                cells[i] = other.cells[i];
            }
        }
    }

    /** One for BOUNDS, MEANS and STEPS alike: they go upwards, and the first not below tells. */
    private static final class Ladder {
        final int[] tops;
        final int[] values;
        int count;

        Ladder(int most) {
            int size = most < 0 ? 0 : most;
            tops = new int[size];
            values = new int[size];
        }

        boolean takes(int top) {
            if (count >= tops.length) {
                return false;
            }
            return count < 1 || top > tops[count - 1];
        }

        int add(int top, int value) {
            if (count >= 0 && count < tops.length && count < values.length) {
                tops[count] = top;
                values[count] = value;
                count++;
            }
            return count;
        }

        int firstNotBelow(int number) {
            for (int i = 0; i < count && i < tops.length; i++) {
                if (tops[i] >= number) {
                    return i;
                }
            }
            return NONE;
        }

        int topAt(int i) {
            return i >= 0 && i < tops.length ? tops[i] : 0;
        }

        int valueAt(int i) {
            return i >= 0 && i < values.length ? values[i] : 0;
        }

        void copyFrom(Ladder other) {
            count = other.count;
            for (int i = 0; i < count && i < tops.length; i++) {
                tops[i] = other.topAt(i);
            }
            for (int i = 0; i < count && i < values.length; i++) {
                values[i] = other.valueAt(i);
            }
        }
    }

    private static final class Detail {
        final Ladder bounds = new Ladder(BOUNDS);
        final Ladder means = new Ladder(MEANS);
        final Ladder steps = new Ladder(STEPS);
        int place = NONE;
        int beginning;
        int limit;
        int worst;
        int crack = NONE;
        int threshold;

        void copyFrom(Detail other) {
            bounds.copyFrom(other.bounds);
            means.copyFrom(other.means);
            steps.copyFrom(other.steps);
            place = other.place;
            beginning = other.beginning;
            limit = other.limit;
            worst = other.worst;
            crack = other.crack;
            threshold = other.threshold;
        }

        int effectOf(Row row, int first, int second) {
            int mean = means.firstNotBelow(row.meanOf(first, second));
            int percentage = mean == NONE ? 100 : means.valueAt(mean);
            return (row.rangeOf(first, second) * percentage + 99) / 100;
        }

        /** Where no BOUND tells, it is the number behind all, as part() and parts() have it. */
        int boundFor(int effect) {
            int bound = bounds.firstNotBelow(effect);
            return bound == NONE ? BOUNDS : bound;
        }

        long useUnder(int bound) {
            int bears = bound == BOUNDS ? 1 : bounds.valueAt(bound);
            return bears < 1 ? LIFE : LIFE / bears;
        }

        int growthAt(int length) {
            int found = steps.firstNotBelow(length);
            return steps.valueAt(found == NONE ? steps.count - 1 : found);
        }

        /**
         * NONE, if no number of CYCLES brings it there. Under one STEP all make the crack longer
         * by as much, so they are reckoned at once and not one by one.
         */
        long cyclesUntil(int length, int target) {
            if (target > MOST_LENGTH) {
                return NONE;
            }
            long reached = length;
            long cycles = 0;
            for (int i = 0; i < steps.count; i++) {
                boolean last = i == steps.count - 1;
                long goal = last ? target : Math.min(target, steps.topAt(i) + 1L);
                long by = steps.valueAt(i);
                if (reached < goal) {
                    if (by < 1) {
                        return NONE;
                    }
                    long here = (goal - reached + by - 1) / by;
                    cycles += here;
                    reached += here * by;
                }
            }
            return reached >= target ? cycles : NONE;
        }
    }

    /** Apart from the tape, since an IMAGE keeps just this. */
    private static final class Board {
        final Place[] places = new Place[PLACES];
        final Detail[] details = new Detail[DETAILS];

        Board() {
            for (int p = 0; p < places.length; p++) {
                places[p] = new Place();
            }
            for (int d = 0; d < details.length; d++) {
                details[d] = new Detail();
            }
        }

        Place placeAt(int p) {
            return p >= 0 && p < places.length ? places[p] : null;
        }

        Detail detailAt(int d) {
            return d >= 0 && d < details.length ? details[d] : null;
        }

        Place gaugeAt(int p) {
            Place place = placeAt(p);
            return place != null && place.isGauge() ? place : null;
        }

        /** A Sum is not fed, torn or filled, and nothing is the sum of one. */
        Place fedGaugeAt(int p) {
            Place gauge = gaugeAt(p);
            return gauge != null && gauge.kind != SUM ? gauge : null;
        }

        int gauges() {
            int found = 0;
            for (int p = 0; p < PLACES; p++) {
                found += gaugeAt(p) != null ? 1 : 0;
            }
            return found;
        }

        int plugs() {
            int found = 0;
            for (int p = 0; p < PLACES; p++) {
                Place place = placeAt(p);
                found += place != null && place.kind == PLUG ? 1 : 0;
            }
            return found;
        }

        int spansOf(Place gauge) {
            if (gauge.kind != SUM) {
                return gauge.spans;
            }
            Place one = fedGaugeAt(gauge.a);
            Place other = fedGaugeAt(gauge.b);
            return one == null || other == null ? 0 : Math.min(one.spans, other.spans);
        }

        int cellOf(Place gauge, int span) {
            if (gauge.kind != SUM) {
                return gauge.cellAt(span);
            }
            Place one = fedGaugeAt(gauge.a);
            Place other = fedGaugeAt(gauge.b);
            if (one == null || other == null) {
                return NOTHING;
            }
            return sumOf(one.cellAt(span), other.cellAt(span));
        }

        private static int sumOf(int one, int other) {
            if (one == GAP || other == GAP) {
                return GAP;
            }
            if (one == NOTHING || other == NOTHING) {
                return NOTHING;
            }
            return Tape.readingOrGap((long) one + other);
        }

        void copyFrom(Board from) {
            for (int p = 0; p < PLACES; p++) {
                Place mine = placeAt(p);
                Place theirs = from.placeAt(p);
                if (mine != null && theirs != null) {
                    mine.copyFrom(theirs);
                }
            }
            for (int d = 0; d < DETAILS; d++) {
                Detail mine = detailAt(d);
                Detail theirs = from.detailAt(d);
                if (mine != null && theirs != null) {
                    mine.copyFrom(theirs);
                }
            }
        }
    }

    /** Reckoned anew for each call that asks, since a gauge may have changed since the last one. */
    private static final class Row {
        final int[] kept = new int[MOST_SPANS];
        final int[] turns = new int[MOST_SPANS];
        final int[] pile = new int[MOST_SPANS];
        final int[] firsts = new int[MOST_SPANS / 2];
        final int[] seconds = new int[MOST_SPANS / 2];
        final int[] closers = new int[MOST_SPANS / 2];
        int gaps;
        int readings;
        int length;
        int turnCount;
        int restCount;
        int cycleCount;

        void reckon(Board board, Place gauge, int from) {
            gaps = 0;
            readings = 0;
            length = 0;
            int spans = board.spansOf(gauge);
            for (int span = from; span < spans; span++) {
                int cell = board.cellOf(gauge, span);
                if (cell == GAP) {
                    gaps++;
                } else if (cell != NOTHING) {
                    readings++;
                    keep(gauge, cell);
                }
            }
            if (gauge.kind == PEAK) {
                length = copyTurns(kept, length, kept);
            }
            turnCount = copyTurns(kept, length, turns);
            pileUp();
        }

        private void keep(Place gauge, int reading) {
            if (length < 0 || length >= kept.length) {
                return;
            }
            if (gauge.kind == STEP && length > 0
                    && Math.abs(reading - kept[length - 1]) < gauge.a) {
                return;
            }
            kept[length] = reading;
            length++;
        }

        /** Into may be from itself, since no more are written than were read. */
        private static int copyTurns(int[] from, int count, int[] into) {
            int found = 0;
            for (int i = 0; i < count && i < from.length; i++) {
                int number = from[i];
                if (found > 1 && found <= into.length
                        && isPassedOver(into[found - 2], into[found - 1], number)) {
                    found--;
                }
                boolean same = found > 0 && found <= into.length && into[found - 1] == number;
                if (!same && found < into.length) {
                    into[found] = number;
                    found++;
                }
            }
            return found;
        }

        private static boolean isPassedOver(int before, int number, int behind) {
            return before < number ? number < behind : number > behind;
        }

        private void pileUp() {
            restCount = 0;
            cycleCount = 0;
            for (int turn = 0; turn < turnCount; turn++) {
                if (restCount >= 0 && restCount < pile.length) {
                    pile[restCount] = turn;
                    restCount++;
                }
                for (int round = 0; round < MOST_SPANS && closesCycle(); round++) {
                    takeCycle();
                }
            }
        }

        private boolean closesCycle() {
            if (restCount < 4) {
                return false;
            }
            int a = turnAt(restAt(restCount - 4));
            int b = turnAt(restAt(restCount - 3));
            int c = turnAt(restAt(restCount - 2));
            int d = turnAt(restAt(restCount - 1));
            int low = Math.min(a, d);
            int high = Math.max(a, d);
            return isWithin(b, low, high) && isWithin(c, low, high);
        }

        private void takeCycle() {
            int last = restCount - 1;
            if (last < 3 || last >= pile.length || cycleCount < 0 || cycleCount >= firsts.length
                    || cycleCount >= seconds.length || cycleCount >= closers.length) {
                return;
            }
            firsts[cycleCount] = pile[last - 2];
            seconds[cycleCount] = pile[last - 1];
            closers[cycleCount] = pile[last];
            cycleCount++;
            pile[last - 2] = pile[last];
            restCount -= 2;
        }

        int turnAt(int i) {
            return i >= 0 && i < turns.length ? turns[i] : 0;
        }

        int restAt(int i) {
            return i >= 0 && i < pile.length ? pile[i] : 0;
        }

        int firstOf(int k) {
            return k >= 0 && k < firsts.length ? firsts[k] : 0;
        }

        int secondOf(int k) {
            return k >= 0 && k < seconds.length ? seconds[k] : 0;
        }

        int closerOf(int k) {
            return k >= 0 && k < closers.length ? closers[k] : 0;
        }

        int rangeOf(int first, int second) {
            return Math.abs(turnAt(first) - turnAt(second));
        }

        int meanOf(int first, int second) {
            return turnAt(first) + turnAt(second);
        }
    }

    /** Counts in units of LIFE, so that all is exact in whole numbers. */
    private static final class Wear {
        final long[] parts = new long[BOUNDS + 1];
        long least;
        long most;
        boolean woken;

        void begin() {
            for (int i = 0; i < parts.length; i++) {
                parts[i] = 0;
            }
            least = 0;
            most = 0;
            woken = false;
        }

        void reckon(Detail detail, Row row) {
            for (int k = 0; k < row.cycleCount; k++) {
                use(detail, detail.effectOf(row, row.firstOf(k), row.secondOf(k)), 1);
            }
            for (int i = 0; i + 1 < row.restCount; i++) {
                use(detail, detail.effectOf(row, row.restAt(i), row.restAt(i + 1)), 2);
            }
            most = least + row.gaps * detail.useUnder(detail.boundFor(detail.worst));
        }

        /** What is below LIMIT does no harm until one that is not has come. */
        private void use(Detail detail, int effect, int halves) {
            woken = woken || effect >= detail.limit;
            if (!woken || halves < 1) {
                return;
            }
            int bound = detail.boundFor(effect);
            long used = detail.useUnder(bound) / halves;
            least += used;
            if (bound >= 0 && bound < parts.length) {
                parts[bound] += used;
            }
        }

        long partOf(int bound) {
            return bound >= 0 && bound < parts.length ? parts[bound] : 0;
        }

        int partsAheadOf(int bound) {
            long own = partOf(bound);
            int ahead = 0;
            for (int i = 0; i < parts.length; i++) {
                if (parts[i] > own || (parts[i] == own && i < bound)) {
                    ahead++;
                }
            }
            return ahead;
        }
    }

    /** Has room for 256 TURNS alone, since a byte of the tape can tell no more. */
    private static final class Checker {
        final int[] due = new int[MOST_TURNS_CHECKED];
        final int[] told = new int[MOST_TURNS_CHECKED];

        void begin() {
            for (int i = 0; i < due.length; i++) {
                due[i] = NONE;
            }
            for (int i = 0; i < told.length; i++) {
                told[i] = NONE;
            }
        }

        void pair(int one, int other) {
            if (one >= 0 && one < due.length && other >= 0 && other < due.length) {
                due[one] = other;
                due[other] = one;
            }
        }

        void tell(int one, int other) {
            if (one >= 0 && one < told.length && other >= 0 && other < told.length) {
                told[one] = told[one] == NONE ? other : TOLD_TWICE;
                told[other] = told[other] == NONE ? one : TOLD_TWICE;
            }
        }

        int leastWrong(int turns) {
            for (int i = 0; i < turns && i < due.length && i < told.length; i++) {
                if (due[i] != told[i]) {
                    return i;
                }
            }
            return NONE;
        }
    }
}
