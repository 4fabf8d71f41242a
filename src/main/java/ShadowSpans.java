/**
 * Shadows that pass over stations, and what they tell of the body that threw them.
 *
 * <p>A body's right side is its left side seen in a mirror. So wherever the code says "side", side 0
 * is the left as it is and side 1 the right with each x negated: on both, outward is towards less
 * x, and one rule serves both.
 */
public final class ShadowSpans {
    public static final int NONE = -100000001, UNKNOWN = -100000002, OUTSIDE = -100000003,
            STATE = -100000004, FULL = -100000005, OUT = -100000006;

    private static final int MOST_STATIONS = 8;
    private static final int MOST_LETTERS = 24;
    private static final int MOST_HEIGHT = 200;
    private static final int MOST_TICK = 500;
    private static final int MOST_ERROR = 20;
    private static final int MOST_SPEED = 20;
    private static final int FIRST_SPEED = 10;
    private static final int LEFT = 0;
    private static final int RIGHT = 1;
    private static final int DIGEST_START = 1613;
    private static final int DIGEST_STEP = 50;

    private final int[] letters = new int[MOST_LETTERS];
    private final Reader reader = new Reader();
    private final Roster roster = new Roster();
    private final Verdict verdict = new Verdict();
    private final Hull hull = new Hull();
    private final Span span = new Span();
    private int pageLength;
    private int reportsEver;
    private int wentEver;

    public ShadowSpans() {
    }

    // ---- texts

    public int letter(int code) {
        if (code < 32 || code > 126) {
            return OUTSIDE;
        }
        if (pageLength < 0 || pageLength >= letters.length) {
            return FULL;
        }
        letters[pageLength] = code;
        pageLength++;
        return pageLength;
    }

    public int blank() {
        int had = pageLength;
        pageLength = 0;
        return had;
    }

    public int fault() {
        return readPage();
    }

    public int report() {
        if (readPage() < pageLength || !reader.isWhole() || !reader.isSound()
                || roster.find(reader.number(Reader.HEIGHT)) >= 0) {
            return STATE;
        }
        if (roster.isFull()) {
            return FULL;
        }
        roster.add(reader);
        reportsEver++;
        pageLength = 0;
        settle();
        return roster.size - 1;
    }

    public int drop(int station) {
        if (!roster.has(station)) {
            return UNKNOWN;
        }
        roster.remove(station);
        wentEver++;
        settle();
        return roster.size;
    }

    public int error(int station, int v) {
        if (!roster.has(station)) {
            return UNKNOWN;
        }
        if (v < 0 || v > MOST_ERROR) {
            return OUTSIDE;
        }
        if (roster.missed[station]
                || !isBackGreat(roster.gones[station], roster.backs[station], v)) {
            return STATE;
        }
        int old = roster.errors[station];
        roster.errors[station] = v;
        settle();
        return old;
    }

    public int speed(int v) {
        if (v < 1 || v > MOST_SPEED) {
            return OUTSIDE;
        }
        int old = roster.pace;
        roster.pace = v;
        settle();
        return old;
    }

    // ---- stations

    public int station(int station, int what) {
        if (!roster.has(station)) {
            return UNKNOWN;
        }
        if (what < 0 || what > 8) {
            return OUTSIDE;
        }
        if (what == 0) {
            return roster.heights[station];
        }
        if (what == 1) {
            return roster.missed[station] ? 1 : 0;
        }
        return roster.missed[station] ? NONE : chordFact(station, what);
    }

    public int at(int h) {
        if (!isHeight(h)) {
            return OUTSIDE;
        }
        int found = roster.find(h);
        return found < 0 ? NONE : found;
    }

    public int fits() {
        return allFit() ? 1 : 0;
    }

    public int wrong() {
        return verdict.culprits;
    }

    // ---- the kernel

    public int kernel(int what) {
        if (what < 0 || what > 3) {
            return OUTSIDE;
        }
        if (!allFit()) {
            return STATE;
        }
        switch (what) {
            case 0:
                return hull.size;
            case 1:
                return hull.doubleArea();
            case 2:
                return hull.longestSquare();
            default:
                return hull.leastWidthSquare();
        }
    }

    public int corner(int corner, int what) {
        if (!isBit(what)) {
            return OUTSIDE;
        }
        if (!allFit()) {
            return STATE;
        }
        if (corner < 0 || corner >= hull.size) {
            return UNKNOWN;
        }
        return what == 0 ? hull.cornerXs[corner] : hull.cornerHs[corner];
    }

    public int holds(int h, int side, int part) {
        if (!isHeight(h) || !isBit(side) || !isBit(part)) {
            return OUTSIDE;
        }
        if (!allFit()) {
            return STATE;
        }
        span.measureHeld(roster, h);
        return span.tell(side, part);
    }

    // ---- reach

    public int reach(int h, int side, int part) {
        if (!isHeight(h) || !isBit(side) || !isBit(part)) {
            return OUTSIDE;
        }
        if (!allFit() || !roster.hasChord()) {
            return STATE;
        }
        span.measureReached(roster, h);
        return span.tell(side, part);
    }

    public int lasts(int h, int what) {
        if (!isHeight(h) || !isBit(what)) {
            return OUTSIDE;
        }
        if (!allFit() || !roster.hasChord()) {
            return STATE;
        }
        if (what == 0) {
            span.measureHeld(roster, h);
            return span.ticksDown(roster.pace);
        }
        span.measureReached(roster, h);
        return span.ticksUp(roster.pace);
    }

    // ---- what is told of all

    public int count(int what) {
        switch (what) {
            case 0:
                return roster.size;
            case 1:
                return roster.missCount();
            case 2:
                return pageLength;
            case 3:
                return roster.pace;
            case 4:
                return reportsEver;
            case 5:
                return wentEver;
            default:
                return OUTSIDE;
        }
    }

    public long digest() {
        long sum = DIGEST_START;
        for (int station = 0; station < roster.size; station++) {
            for (int what = 0; what <= 8; what++) {
                sum = 31 * sum + station(station, what);
            }
        }
        sum = 31 * sum + fits();
        sum = 31 * sum + wrong();
        if (allFit()) {
            sum = mixKernel(sum);
            if (roster.hasChord()) {
                sum = mixReach(sum);
            }
        }
        for (int place = 0; place < pageLength && place < letters.length; place++) {
            sum = 31 * sum + letters[place];
        }
        for (int what = 0; what <= 5; what++) {
            sum = 31 * sum + count(what);
        }
        return sum;
    }

    private long mixKernel(long start) {
        long sum = start;
        for (int what = 0; what <= 3; what++) {
            sum = 31 * sum + kernel(what);
        }
        for (int corner = 0; corner < hull.size; corner++) {
            sum = 31 * sum + corner(corner, 0);
            sum = 31 * sum + corner(corner, 1);
        }
        return sum;
    }

    private long mixReach(long start) {
        long sum = start;
        for (int h = -MOST_HEIGHT; h <= MOST_HEIGHT; h += DIGEST_STEP) {
            for (int side = LEFT; side <= RIGHT; side++) {
                sum = 31 * sum + reach(h, side, 0);
                sum = 31 * sum + reach(h, side, 1);
            }
        }
        return sum;
    }

    /** Feeds the page to the reader: the place of the letter it refused, or the page's length. */
    private int readPage() {
        reader.restart();
        int place = 0;
        while (place < pageLength && place < letters.length && reader.take(letters[place])) {
            place++;
        }
        return place;
    }

    private int chordFact(int station, int what) {
        switch (what) {
            case 2:
                return roster.gones[station];
            case 3:
                return roster.backs[station];
            case 4:
                return roster.errors[station];
            case 5:
                return roster.outer(station, LEFT);
            case 6:
                return roster.inner(station, LEFT);
            case 7:
                return -roster.inner(station, RIGHT);
            default:
                return -roster.outer(station, RIGHT);
        }
    }

    private boolean allFit() {
        return verdict.culprits == 0;
    }

    /** Many calls ask between two changes; what they share is worked out at the change. */
    private void settle() {
        verdict.judge(roster);
        hull.wrap(roster);
    }

    private static boolean isHeight(int h) {
        return h >= -MOST_HEIGHT && h <= MOST_HEIGHT;
    }

    private static boolean isBit(int number) {
        return number == 0 || number == 1;
    }

    private static boolean isBackGreat(int gone, int back, int error) {
        return back > gone + 2 * error;
    }

    /** Reads letters one by one as a report, as long as a report can begin with them. */
    private static final class Reader {
        static final int HEIGHT = 0;
        static final int GONE = 1;
        static final int BACK = 2;
        static final int ERROR = 3;
        static final int MISS = 4;

        private final int[] numbers = new int[4];
        private int stage;
        private int figures;
        private boolean below;

        void restart() {
            for (int i = 0; i < numbers.length; i++) {
                numbers[i] = 0;
            }
            enter(HEIGHT);
        }

        /** Whether a report can go on with this letter; if not, nothing has changed. */
        boolean take(int code) {
            if (stage < 0 || stage >= numbers.length) {
                return false;
            }
            if (code >= '0' && code <= '9') {
                return takeFigure(code - '0');
            }
            return code == '-' ? takeMinus() : takeMark(code);
        }

        boolean isWhole() {
            return isMiss() || figures > 0 && (stage == BACK || stage == ERROR);
        }

        boolean isMiss() {
            return stage == MISS;
        }

        /** Whether a whole report's numbers go together. */
        boolean isSound() {
            return isMiss() || isBackGreat(numbers[GONE], numbers[BACK], numbers[ERROR]);
        }

        int number(int which) {
            return which < 0 || which >= numbers.length ? 0 : numbers[which];
        }

        private void enter(int next) {
            stage = next;
            figures = 0;
            below = false;
        }

        private boolean takeFigure(int figure) {
            int before = Math.abs(numbers[stage]);
            boolean zeroAhead = figures > 0 && before == 0;
            boolean zeroAmiss = figures == 0 && figure == 0 && (below || stage == ERROR);
            int after = 10 * before + figure;
            if (zeroAhead || zeroAmiss || after > limit()) {
                return false;
            }
            numbers[stage] = below ? -after : after;
            figures++;
            return true;
        }

        private boolean takeMinus() {
            if (figures > 0 || below || stage == ERROR) {
                return false;
            }
            below = true;
            return true;
        }

        private boolean takeMark(int code) {
            if (code == 'x' && stage == GONE && figures == 0 && !below) {
                enter(MISS);
                return true;
            }
            if (figures == 0 || stage == ERROR || code != markBehind()) {
                return false;
            }
            enter(stage + 1);
            return true;
        }

        private int markBehind() {
            if (stage == HEIGHT) {
                return ':';
            }
            return stage == GONE ? ',' : '~';
        }

        private int limit() {
            if (stage == HEIGHT) {
                return MOST_HEIGHT;
            }
            return stage == ERROR ? MOST_ERROR : MOST_TICK;
        }
    }

    /** The stations in the order in which they came. */
    private static final class Roster {
        final int[] heights = new int[MOST_STATIONS];
        final boolean[] missed = new boolean[MOST_STATIONS];
        final int[] gones = new int[MOST_STATIONS];
        final int[] backs = new int[MOST_STATIONS];
        final int[] errors = new int[MOST_STATIONS];
        int size;
        int pace = FIRST_SPEED;

        boolean has(int number) {
            return number >= 0 && number < size && number < MOST_STATIONS;
        }

        boolean isFull() {
            return size >= MOST_STATIONS;
        }

        /** The number of the station of a height, or -1. */
        int find(int height) {
            for (int i = 0; i < size; i++) {
                if (heights[i] == height) {
                    return i;
                }
            }
            return -1;
        }

        void add(Reader from) {
            if (isFull()) {
                return;
            }
            heights[size] = from.number(Reader.HEIGHT);
            missed[size] = from.isMiss();
            gones[size] = from.number(Reader.GONE);
            backs[size] = from.number(Reader.BACK);
            errors[size] = from.number(Reader.ERROR);
            size++;
        }

        void remove(int number) {
            if (!has(number)) {
                return;
            }
            for (int i = number; i + 1 < size; i++) {
                heights[i] = heights[i + 1];
                missed[i] = missed[i + 1];
                gones[i] = gones[i + 1];
                backs[i] = backs[i + 1];
                errors[i] = errors[i + 1];
            }
            size--;
        }

        int missCount() {
            int misses = 0;
            for (int i = 0; i < size; i++) {
                if (missed[i]) {
                    misses++;
                }
            }
            return misses;
        }

        boolean hasChord() {
            return missCount() < size;
        }

        /** How far out a chord's end on this side may lie. */
        int outer(int number, int side) {
            if (number < 0 || number >= MOST_STATIONS) {
                return 0;
            }
            return side == LEFT ? pace * (gones[number] - errors[number])
                    : -pace * (backs[number] + errors[number]);
        }

        /** How far in a chord's end on this side may lie. */
        int inner(int number, int side) {
            if (number < 0 || number >= MOST_STATIONS) {
                return 0;
            }
            return side == LEFT ? pace * (gones[number] + errors[number])
                    : -pace * (backs[number] - errors[number]);
        }
    }

    /**
     * Which stations are wrong. A body without dents is refused only where the straight line between
     * two chords passes a third station: through one that missed, or outside all that the chord
     * there may be. So the threes that clash tell all, and what is wrong meets each of them.
     */
    private static final class Verdict {
        private static final int THREES = 56;

        private final int[] clashes = new int[THREES];
        private int clashCount;
        int culprits;

        void judge(Roster roster) {
            clashCount = 0;
            for (int middle = 0; middle < roster.size; middle++) {
                for (int low = 0; low < roster.size; low++) {
                    if (roster.heights[low] < roster.heights[middle] && !roster.missed[low]) {
                        gather(roster, low, middle);
                    }
                }
            }
            culprits = fewest(roster.size);
        }

        private void gather(Roster roster, int low, int middle) {
            for (int high = 0; high < roster.size; high++) {
                if (roster.heights[high] > roster.heights[middle] && !roster.missed[high]
                        && isClash(roster, low, middle, high) && clashCount < clashes.length) {
                    clashes[clashCount] = 1 << low | 1 << middle | 1 << high;
                    clashCount++;
                }
            }
        }

        private static boolean isClash(Roster roster, int low, int middle, int high) {
            return roster.missed[middle] || isDent(roster, low, middle, high, LEFT)
                    || isDent(roster, low, middle, high, RIGHT);
        }

        private static boolean isDent(Roster roster, int low, int middle, int high, int side) {
            int above = roster.heights[high] - roster.heights[middle];
            int under = roster.heights[middle] - roster.heights[low];
            int line = roster.inner(low, side) * above + roster.inner(high, side) * under;
            return line < roster.outer(middle, side) * (above + under);
        }

        private int fewest(int size) {
            if (clashCount == 0) {
                return 0;
            }
            int every = (1 << size) - 1;
            int best = every;
            for (int without = 0; without < every; without++) {
                if (Integer.bitCount(without) < Integer.bitCount(best) && isCure(without)) {
                    best = without;
                }
            }
            return best;
        }

        private boolean isCure(int without) {
            for (int i = 0; i < clashCount; i++) {
                if ((clashes[i] & without) == 0) {
                    return false;
                }
            }
            return true;
        }
    }

    /** The kernel: what is wrapped around the innermost ends of all chords. */
    private static final class Hull {
        private static final int MOST_POINTS = 2 * MOST_STATIONS;

        private final int[] xs = new int[MOST_POINTS];
        private final int[] hs = new int[MOST_POINTS];
        private int points;
        final int[] cornerXs = new int[MOST_POINTS];
        final int[] cornerHs = new int[MOST_POINTS];
        int size;

        void wrap(Roster roster) {
            collect(roster);
            size = 0;
            if (points == 0) {
                return;
            }
            int first = leftmost();
            int here = first;
            do {
                cornerXs[size] = xs[here];
                cornerHs[size] = hs[here];
                size++;
                here = next(here);
            } while (here != first && size < MOST_POINTS);
        }

        int doubleArea() {
            int sum = 0;
            for (int i = 0; i < size; i++) {
                int j = after(i);
                sum += cornerXs[i] * cornerHs[j] - cornerXs[j] * cornerHs[i];
            }
            return sum;
        }

        int longestSquare() {
            int most = 0;
            for (int i = 0; i < size; i++) {
                for (int j = 0; j < i; j++) {
                    most = Math.max(most, square(cornerXs[i] - cornerXs[j], cornerHs[i] - cornerHs[j]));
                }
            }
            return most;
        }

        /** Of the two lines that lie closest, one lies along an edge. */
        int leastWidthSquare() {
            if (size < 3) {
                return 0;
            }
            long least = widthSquare(0);
            for (int i = 1; i < size; i++) {
                least = Math.min(least, widthSquare(i));
            }
            return (int) least;
        }

        private void collect(Roster roster) {
            points = 0;
            for (int i = 0; i < roster.size; i++) {
                if (!roster.missed[i]) {
                    addPoint(roster.inner(i, LEFT), roster.heights[i]);
                    addPoint(-roster.inner(i, RIGHT), roster.heights[i]);
                }
            }
        }

        private void addPoint(int x, int h) {
            if (points < MOST_POINTS) {
                xs[points] = x;
                hs[points] = h;
                points++;
            }
        }

        private int leftmost() {
            int best = 0;
            for (int i = 1; i < points; i++) {
                if (xs[i] < xs[best] || xs[i] == xs[best] && hs[i] < hs[best]) {
                    best = i;
                }
            }
            return best;
        }

        /** The point behind which, seen from here, no other lies to the right. */
        private int next(int here) {
            int best = here;
            for (int i = 0; i < points; i++) {
                if (i != here && (best == here || isBeyond(here, best, i))) {
                    best = i;
                }
            }
            return best;
        }

        /** On one line the farther point wins, so that none between is taken for a corner. */
        private boolean isBeyond(int here, int best, int i) {
            int bestX = xs[best] - xs[here];
            int bestH = hs[best] - hs[here];
            int x = xs[i] - xs[here];
            int h = hs[i] - hs[here];
            int turn = bestX * h - x * bestH;
            return turn < 0 || turn == 0 && square(x, h) > square(bestX, bestH);
        }

        private int after(int i) {
            return i + 1 < size ? i + 1 : 0;
        }

        private long widthSquare(int edge) {
            int j = after(edge);
            int x = cornerXs[j] - cornerXs[edge];
            int h = cornerHs[j] - cornerHs[edge];
            long most = 0;
            for (int i = 0; i < size; i++) {
                most = Math.max(most, (long) x * (cornerHs[i] - cornerHs[edge])
                        - (long) h * (cornerXs[i] - cornerXs[edge]));
            }
            int length = square(x, h);
            return length <= 0 ? 0 : most * most / length;
        }

        private static int square(int x, int h) {
            return x * x + h * h;
        }
    }

    /** An x on one side as a fraction, free as long as nothing has bound it. */
    private static final class Bound {
        boolean free;
        long top;
        long bottom;

        void release() {
            free = true;
            top = 0;
            bottom = 1;
        }

        void raise(long newTop, long newBottom) {
            if (newBottom > 0 && (free || newTop * bottom > top * newBottom)) {
                put(newTop, newBottom);
            }
        }

        void lower(long newTop, long newBottom) {
            if (newBottom > 0 && (free || newTop * bottom < top * newBottom)) {
                put(newTop, newBottom);
            }
        }

        int lowestTop() {
            return (int) (top / divisor());
        }

        int lowestBottom() {
            return (int) (bottom / divisor());
        }

        private void put(long newTop, long newBottom) {
            free = false;
            top = newTop;
            bottom = newBottom;
        }

        /** The greatest common divisor of both; 1 where there is none, as it is divided by. */
        private long divisor() {
            long a = Math.abs(top);
            long b = bottom;
            for (int step = 0; step < 100 && b != 0; step++) {
                long rest = a % b;
                a = b;
                b = rest;
            }
            return a > 0 ? a : 1;
        }
    }

    /** From where to where something goes at one height. */
    private static final class Span {
        private final Bound left = new Bound();
        private final Bound right = new Bound();
        private boolean out;

        void measureHeld(Roster roster, int h) {
            hold(roster, h, LEFT, left);
            hold(roster, h, RIGHT, right);
            out = left.free || right.free;
        }

        void measureReached(Roster roster, int h) {
            bind(roster, h, LEFT, left);
            bind(roster, h, RIGHT, right);
            out = isBarred(roster, h) || !isBoundless() && lengthTop() < 0;
        }

        int tell(int side, int part) {
            if (out) {
                return OUT;
            }
            Bound bound = side == LEFT ? left : right;
            if (bound.free) {
                return NONE;
            }
            if (part == 1) {
                return bound.lowestBottom();
            }
            return side == LEFT ? bound.lowestTop() : -bound.lowestTop();
        }

        int ticksDown(int pace) {
            if (out) {
                return 0;
            }
            long divisor = lengthBottom() * pace;
            return divisor <= 0 ? 0 : (int) Math.floorDiv(lengthTop(), divisor);
        }

        int ticksUp(int pace) {
            if (out) {
                return 0;
            }
            if (isBoundless()) {
                return NONE;
            }
            long divisor = lengthBottom() * pace;
            return divisor <= 0 ? 0 : (int) -Math.floorDiv(-lengthTop(), divisor);
        }

        private boolean isBoundless() {
            return left.free || right.free;
        }

        /** The right is mirrored, so the length is what both bounds lack together. */
        private long lengthTop() {
            return -(left.top * right.bottom + right.top * left.bottom);
        }

        private long lengthBottom() {
            return left.bottom * right.bottom;
        }

        /** The kernel goes as far out as any line between two innermost ends. */
        private static void hold(Roster roster, int h, int side, Bound bound) {
            bound.release();
            for (int low = 0; low < roster.size; low++) {
                if (roster.missed[low] || roster.heights[low] > h) {
                    continue;
                }
                if (roster.heights[low] == h) {
                    bound.lower(roster.inner(low, side), 1);
                }
                for (int high = 0; high < roster.size; high++) {
                    if (!roster.missed[high] && roster.heights[high] > h) {
                        int above = roster.heights[high] - h;
                        int under = h - roster.heights[low];
                        bound.lower(roster.inner(low, side) * above + roster.inner(high, side) * under,
                                above + under);
                    }
                }
            }
        }

        /**
         * A point too far out would, by the straight line to a chord's innermost end, pull another
         * chord on the way out too far.
         */
        private static void bind(Roster roster, int h, int side, Bound bound) {
            bound.release();
            for (int near = 0; near < roster.size; near++) {
                if (roster.missed[near]) {
                    continue;
                }
                if (roster.heights[near] == h) {
                    bound.raise(roster.outer(near, side), 1);
                }
                for (int far = 0; far < roster.size; far++) {
                    if (!roster.missed[far] && isBetween(h, roster.heights[near], roster.heights[far])) {
                        int whole = Math.abs(h - roster.heights[far]);
                        int known = Math.abs(roster.heights[near] - roster.heights[far]);
                        int end = roster.inner(far, side);
                        bound.raise(end * known + (roster.outer(near, side) - end) * whole, known);
                    }
                }
            }
        }

        /** Whether one that missed lies at h, or between h and a chord. */
        private static boolean isBarred(Roster roster, int h) {
            for (int miss = 0; miss < roster.size; miss++) {
                for (int chord = 0; chord < roster.size && roster.missed[miss]; chord++) {
                    int fromChord = roster.heights[miss] - roster.heights[chord];
                    if (!roster.missed[chord] && fromChord * (roster.heights[miss] - h) <= 0) {
                        return true;
                    }
                }
            }
            return false;
        }

        private static boolean isBetween(int one, int middle, int other) {
            return one < middle && middle < other || other < middle && middle < one;
        }
    }
}
