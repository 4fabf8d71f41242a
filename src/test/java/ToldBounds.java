import java.math.BigInteger;
import java.util.ArrayList;
import java.util.Arrays;
import java.util.List;

/** Refusals, how long an object is used, and promises 18 and 19, count, digest: each boundary, and a step to each side. */
final class ToldBounds {
    private static final int NONE = ShadowSpans.NONE;
    private static final int UNKNOWN = ShadowSpans.UNKNOWN;
    private static final int OUTSIDE = ShadowSpans.OUTSIDE;
    private static final int STATE = ShadowSpans.STATE;
    private static final int FULL = ShadowSpans.FULL;
    private static final int OUT = ShadowSpans.OUT;

    private final Check check;

    ToldBounds(Check check) {
        this.check = check;
    }

    void all() {
        calls();
        firstRefusal();
        refusalsChangeNothing();
        counts();
        countsEver();
        countOutside();
        start();
        wrapping();
        stations();
        kernel();
        reach();
        page();
        countsOfDigest();
    }

    private void calls() {
        check.sentence("What it is", "An object is used for at most 512 calls after it has been made;");
        ShadowSpans x = new ShadowSpans();
        for (int i = 0; i < 102; i++) {
            Check.type(x, i % 10 + ":x");
            x.report();
            x.drop(0);
        }
        check.due("the 511th call, count(4)", x.count(4), 102);
        check.due("the 512th call, count(5)", x.count(5), 102);
        ShadowSpans y = Check.with("0:0,100", "10:10,90");
        // 17 letters and reports came; the 510th call makes SPEED 11
        for (int call = 18; call <= 510; call++) {
            y.speed(call % 20 + 1);
        }
        check.due("the 511th call, lasts(20, 1)", y.lasts(20, 1), 60);
        check.due("the 512th call, reach(20, 1, 0)", y.reach(20, 1, 0), 880);
    }

    private void firstRefusal() {
        check.sentence("Terms", "Refusals, of several the first as told by each call: UNKNOWN (a number names nothing),"
            + " OUTSIDE (it is not as told), STATE (as told), FULL;");
        ShadowSpans full = Check.with("0:0,9", "1:x", "2:0,9", "3:0,9", "4:0,9", "5:0,9", "6:0,9", "7:0,9");
        for (int i = 0; i < 24; i++) {
            full.letter('7');
        }
        check.due("letter: OUTSIDE, FULL", full.letter(31), OUTSIDE);
        check.due("letter: FULL", full.letter(32), FULL);
        check.due("report: STATE, FULL", full.report(), STATE);
        check.due("report: FULL", Check.report(full, "8:x"), FULL);
        check.due("drop: UNKNOWN", full.drop(8), UNKNOWN);
        check.due("error: UNKNOWN, OUTSIDE", full.error(8, 21), UNKNOWN);
        check.due("error: UNKNOWN", full.error(8, 0), UNKNOWN);
        check.due("error: OUTSIDE, STATE", full.error(1, 21), OUTSIDE);
        check.due("error: STATE", full.error(1, 20), STATE);
        check.due("speed: OUTSIDE", full.speed(21), OUTSIDE);
        check.due("station: UNKNOWN, OUTSIDE", full.station(8, 9), UNKNOWN);
        check.due("station: UNKNOWN", full.station(8, 8), UNKNOWN);
        check.due("station: OUTSIDE", full.station(7, 9), OUTSIDE);
        check.due("at: OUTSIDE", full.at(201), OUTSIDE);
        check.due("kernel: OUTSIDE, STATE", full.kernel(4), OUTSIDE);
        check.due("kernel: STATE", full.kernel(3), STATE);
        check.due("corner: OUTSIDE, STATE, UNKNOWN", full.corner(99, 2), OUTSIDE);
        check.due("corner: STATE, UNKNOWN", full.corner(99, 1), STATE);
        check.due("holds: OUTSIDE, STATE", full.holds(201, 2, 2), OUTSIDE);
        check.due("holds: STATE", full.holds(200, 1, 1), STATE);
        check.due("reach: OUTSIDE, STATE", full.reach(-201, -1, -1), OUTSIDE);
        check.due("reach: STATE", full.reach(-200, 0, 0), STATE);
        check.due("lasts: OUTSIDE, STATE", full.lasts(201, 2), OUTSIDE);
        check.due("lasts: STATE", full.lasts(200, 1), STATE);
        check.due("count: OUTSIDE", full.count(6), OUTSIDE);
        check.due("drop(1)", full.drop(1), 7);
        check.due("corner: OUTSIDE, UNKNOWN", full.corner(4, 2), OUTSIDE);
        check.due("corner: UNKNOWN", full.corner(4, 1), UNKNOWN);
    }

    private void refusalsChangeNothing() {
        check.sentence("Terms", "they change nothing.");
        ShadowSpans[] all = {new ShadowSpans(), Check.with("0:x"), Check.with("0:0,9~2", "20:1,9", "30:x"),
            Check.with("0:0,9~2", "10:x", "20:1,9"),
            Check.with("0:0,9", "1:x", "2:0,9", "3:0,9", "4:0,9", "5:0,9", "6:0,9", "7:0,9")};
        String[] pages = {"", "-0", "0:x", "0:0,9", "8:x"};
        for (int i = 0; i < all.length; i++) {
            ShadowSpans x = all[i];
            Check.type(x, pages[i]);
            List<Long> before = picture(x);
            int[] answers = {x.letter(31), x.letter(127), x.report(), x.drop(-1), x.drop(8), x.error(8, 1), x.error(-1, 1),
                x.error(0, 21), x.error(0, -1), x.error(0, 20), x.speed(0), x.speed(21), x.station(8, 0), x.station(0, 9),
                x.at(201), x.at(-201), x.kernel(4), x.corner(16, 0), x.corner(0, 2), x.holds(201, 0, 0), x.reach(0, 2, 0),
                x.lasts(0, 2), x.count(6)};
            for (int j = 0; j < answers.length; j++) {
                check.due("refusal no. " + j, answers[j] <= UNKNOWN && answers[j] >= FULL);
            }
            check.due("all that can be asked behind them", picture(x).equals(before));
        }
    }

    /** The numbers that the digest is made of, each asked for by its own call. */
    private static List<Long> picture(ShadowSpans x) {
        List<Long> numbers = new ArrayList<>();
        int stations = x.count(0);
        for (int i = 0; i < 9 * stations; i++) {
            numbers.add((long) x.station(i / 9, i % 9));
        }
        boolean fit = x.fits() == 1;
        numbers.add((long) x.fits());
        numbers.add((long) x.wrong());
        for (int what = 0; what < 4 && fit; what++) {
            numbers.add((long) x.kernel(what));
        }
        int corners = fit ? x.kernel(0) : 0;
        for (int i = 0; i < 2 * corners; i++) {
            numbers.add((long) x.corner(i / 2, i % 2));
        }
        boolean chord = x.count(1) < stations;
        for (int i = 0; i < 36 && fit && chord; i++) {
            numbers.add((long) x.reach(50 * (i / 4) - 200, i / 2 % 2, i % 2));
        }
        numbers.add((long) x.fault());
        for (int what = 0; what <= 5; what++) {
            numbers.add((long) x.count(what));
        }
        return numbers;
    }

    private void counts() {
        check.sentence("Promise 18", "How many: 0 STATIONS, 1 that MISSED, 2 letters of THE PAGE, 3 SPEED,");
        ShadowSpans x = new ShadowSpans();
        countsAre(x, 0, 0, 0, 10);
        for (int i = 1; i <= 8; i++) {
            Check.report(x, i + (i % 2 == 0 ? ":x" : ":0,9"));
            countsAre(x, i, i / 2, 0, 10);
        }
        Check.report(x, "9:x");
        countsAre(x, 8, 4, 3, 10);
        x.drop(1);
        countsAre(x, 7, 3, 3, 10);
        x.drop(0);
        countsAre(x, 6, 3, 3, 10);
        x.speed(1);
        countsAre(x, 6, 3, 3, 1);
        x.speed(20);
        x.speed(21);
        x.speed(0);
        countsAre(x, 6, 3, 3, 20);
        for (int i = 4; i <= 25; i++) {
            x.letter('x');
            countsAre(x, 6, 3, Math.min(i, 24), 20);
        }
        x.blank();
        countsAre(x, 6, 3, 0, 20);
        ShadowSpans missed = Check.with("0:x", "1:x", "2:x", "3:x", "4:x", "5:x", "6:x", "7:x");
        countsAre(missed, 8, 8, 0, 10);
    }

    private void countsAre(ShadowSpans x, int... due) {
        for (int what = 0; what < due.length; what++) {
            check.due("count(" + what + ")", x.count(what), due[what]);
        }
    }

    private void countsEver() {
        check.sentence("Promise 18", "4 REPORTS that came, ever, 5 STATIONS that went, ever.");
        ShadowSpans x = new ShadowSpans();
        countsAre(x, 0, 0, 0, 10, 0, 0);
        // more came and went than can be there
        for (int i = 0; i < 20; i++) {
            Check.report(x, i + ":x");
            countsAre(x, 1, 1, 0, 10, i + 1, i);
            x.drop(0);
            countsAre(x, 0, 0, 0, 10, i + 1, i + 1);
        }
        Check.report(x, "0:y");
        x.drop(0);
        countsAre(x, 0, 0, 3, 10, 20, 20);
        ShadowSpans full = Check.with("0:x", "1:x", "2:x", "3:x", "4:x", "5:x", "6:x", "7:x");
        Check.report(full, "8:x");
        full.drop(8);
        full.drop(-1);
        countsAre(full, 8, 8, 3, 10, 8, 0);
        full.drop(7);
        countsAre(full, 7, 7, 3, 10, 8, 1);
        full.report();
        countsAre(full, 8, 8, 0, 10, 9, 1);
    }

    private void countOutside() {
        check.sentence("Promise 18", "OUTSIDE.");
        ShadowSpans x = Check.with("0:0,9", "1:x");
        int[] outside = {-1, 6, -2, 7, Integer.MIN_VALUE, Integer.MAX_VALUE};
        for (int what : outside) {
            check.refused("count(" + what + ")", x, () -> x.count(what), OUTSIDE);
        }
        x.drop(0);
        check.due("count(0)", x.count(0), 1);
        check.due("count(5)", x.count(5), 1);
    }

    private static long[] join(Object... parts) {
        List<Long> all = new ArrayList<>();
        for (Object part : parts) {
            if (part instanceof int[]) {
                for (int number : (int[]) part) {
                    all.add((long) number);
                }
            } else {
                all.add((long) (Integer) part);
            }
        }
        return all.stream().mapToLong(Long::longValue).toArray();
    }

    private void start() {
        check.sentence("Promise 19", "h is 1613, then for each of these numbers, in order, 31 times h, and it");
        // what is told of nothing: fits, wrong, kernel, counts
        int[] rest = {1, 0, 0, 0, 0, 0, 0, 0, 0, 10, 0, 0};
        long sum = 1613;
        for (int number : rest) {
            sum = 31 * sum + number;
        }
        check.due("digest() of nothing", new ShadowSpans().digest(), sum);
        ShadowSpans x = new ShadowSpans();
        x.speed(11);
        check.due("SPEED is a step more", x.digest(), sum + 31 * 31);
        x.speed(9);
        check.due("SPEED is a step less", x.digest(), sum - 31 * 31);
        x.speed(10);
        check.due("SPEED is as before", x.digest(), sum);
        check.due("digest() asked again", x.digest(), sum);
    }

    private void wrapping() {
        check.sentence("Promise 19", "(as longs, wrapping):");
        int below = 0;
        int above = 0;
        for (int h = -200; h <= 200; h += 8) {
            ShadowSpans x = Check.with(h + ":-5,20~3", "7:x");
            x.letter('~');
            List<Long> numbers = picture(x);
            // the digest asks for the letter, not for fault()
            numbers.set(numbers.size() - 7, (long) '~');
            BigInteger exact = BigInteger.valueOf(1613);
            for (long number : numbers) {
                exact = exact.multiply(BigInteger.valueOf(31)).add(BigInteger.valueOf(number));
            }
            check.due("more than a long holds", exact.bitLength() > 63);
            check.due("digest() of a chord at " + h, x.digest(), exact.longValue());
            below += exact.longValue() < 0 ? 1 : 0;
            above += exact.longValue() > 0 ? 1 : 0;
        }
        check.due("some wrap to below 0", below > 0);
        check.due("some wrap to above 0", above > 0);
    }

    private static int[] chord(int h, int gone, int back) {
        return new int[] {h, 0, gone, back, 0, 10 * gone, 10 * gone, 10 * back, 10 * back};
    }

    private static int[] miss(int h) {
        return new int[] {h, 1, NONE, NONE, NONE, NONE, NONE, NONE, NONE};
    }

    private void stations() {
        check.sentence("Promise 19", "of each STATION station() for 0 to 8; fits(), wrong();");
        String[] reports = new String[8];
        Object[] facts = new Object[8];
        for (int i = 0; i < 8; i++) {
            reports[i] = i + ":x";
            facts[i] = miss(i);
            Object[] parts = Arrays.copyOf(facts, i + 3);
            parts[i + 1] = new int[] {1, 0, 0, 0, 0, 0};
            parts[i + 2] = new int[] {i + 1, i + 1, 0, 10, i + 1, 0};
            check.due("digest() of " + (i + 1) + " misses", Check.with(Arrays.copyOf(reports, i + 1)).digest(),
                Check.fold(join(parts)));
        }
        check.due("digest() of what does not FIT", Check.with("0:0,1", "1:x", "2:0,1", "-1:0,1").digest(),
            Check.fold(join(chord(0, 0, 1), miss(1), chord(2, 0, 1), chord(-1, 0, 1), 0, 2, 4, 1, 0, 10, 4, 0)));
    }

    private void kernel() {
        check.sentence("Promise 19", "if STATIONS FIT kernel() for 0 to 3, of each CORNER corner() for 0, 1;");
        // chords at heights that the digest does not ask for, so that REACH there is OUT or NONE
        ShadowSpans x = Check.with("1:0,10", "2:x", "-1:x");
        check.due("digest() of one chord", x.digest(), Check.fold(join(chord(1, 0, 10), miss(2), miss(-1), 1, 0,
            2, 0, 10000, 0, 0, 1, 100, 1, outBut(0, NONE, NONE, NONE, NONE), 3, 2, 0, 10, 3, 0)));
        x.drop(2);
        Check.report(x, "-9:x");
        Check.report(x, "-7:0,10");
        check.due("digest() of two chords", x.digest(), Check.fold(join(chord(1, 0, 10), miss(2), miss(-9),
            chord(-7, 0, 10), 1, 0, 4, 1600, 10064, 64, 0, -7, 100, -7, 100, 1, 0, 1, outBut(0, NONE, NONE, NONE, NONE),
            4, 2, 0, 10, 5, 1)));
        Check.report(x, "0:x");
        check.due("digest() when they do not FIT", x.digest(), Check.fold(join(chord(1, 0, 10), miss(2), miss(-9),
            chord(-7, 0, 10), miss(0), 0, 1, 5, 3, 0, 10, 6, 1)));
    }

    /** What reach() tells at the nine heights: OUT, but for one. */
    private static int[] outBut(int h, int... there) {
        int[] all = new int[36];
        Arrays.fill(all, OUT);
        System.arraycopy(there, 0, all, 4 * ((h + 200) / 50), 4);
        return all;
    }

    private void reach() {
        check.sentence("Promise 19", "if one did not MISS, too, for heights -200, -150, and so on to 200 reach() for sides"
            + " 0, 1, parts 0, 1 each;");
        for (int h = -200; h <= 200; h += 50) {
            for (int step = -1; step <= 1; step++) {
                int height = h + step;
                if (Math.abs(height) <= 200) {
                    int[] reach = new int[36];
                    Arrays.fill(reach, NONE);
                    if (step == 0) {
                        System.arraycopy(new int[] {-40, 1, 90, 1}, 0, reach, 4 * ((h + 200) / 50), 4);
                    }
                    check.due("digest() of a chord at " + height, Check.with(height + ":-4,9").digest(),
                        Check.fold(join(chord(height, -4, 9), 1, 0, 2, 0, 16900, 0, -40, height, 90, height, reach,
                            1, 0, 0, 10, 1, 0)));
                }
            }
        }
        ShadowSpans x = Check.with("50:x");
        check.due("digest() when all MISSED", x.digest(),
            Check.fold(join(miss(50), 1, 0, 0, 0, 0, 0, 1, 1, 0, 10, 1, 0)));
        Check.report(x, "49:-4,9");
        Check.report(x, "-1:x");
        check.due("digest() when one did not, but no height is within", x.digest(),
            Check.fold(join(miss(50), chord(49, -4, 9), miss(-1), 1, 0, 2, 0, 16900, 0, -40, 49, 90, 49,
                outBut(0, NONE, NONE, NONE, NONE), 3, 2, 0, 10, 3, 0)));
    }

    private void page() {
        check.sentence("Promise 19", "letters of THE PAGE;");
        ShadowSpans x = new ShadowSpans();
        for (int length = 0; length <= 24; length++) {
            int[] letters = new int[length];
            for (int i = 0; i < length; i++) {
                letters[i] = i % 2 == 0 ? 126 - i : 32 + i;
            }
            check.due("digest() with " + length + " letters", x.digest(),
                Check.fold(join(1, 0, 0, 0, 0, 0, letters, 0, 0, length, 10, 0, 0)));
            x.letter(length % 2 == 0 ? 126 - length : 32 + length);
        }
        x.blank();
        check.due("digest() when they are gone", x.digest(), new ShadowSpans().digest());
    }

    private void countsOfDigest() {
        check.sentence("Promise 19", "what count() tells for 0 to 5.");
        ShadowSpans x = Check.with("0:x", "1:x", "2:x");
        x.drop(0);
        x.drop(0);
        x.drop(0);
        check.due("digest() when all went", x.digest(), Check.fold(1, 0, 0, 0, 0, 0, 0, 0, 0, 10, 3, 3));
        x.speed(20);
        x.letter('0');
        check.due("digest() at SPEED 20 with a letter", x.digest(),
            Check.fold(1, 0, 0, 0, 0, 0, '0', 0, 0, 1, 20, 3, 3));
    }
}
