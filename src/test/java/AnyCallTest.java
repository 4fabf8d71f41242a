import java.util.Random;

/**
 * Any arguments in any state: no call throws, and a call that only asks, or is refused, changes nothing
 * (but behind the 512th call, where the document leaves all answers free, only that none throws).
 */
public final class AnyCallTest {
    private static final int[] HARD = {Integer.MIN_VALUE, Integer.MIN_VALUE + 1, -1000000, -501, -202, -201, -200, -199,
        -2, -1, 0, 1, 2, 3, 4, 5, 6, 7, 8, 9, 15, 16, 17, 20, 21, 24, 31, 32, 45, 48, 57, 58, 120, 126, 127, 199, 200,
        201, 500, 501, 1000000, Integer.MAX_VALUE - 1, Integer.MAX_VALUE};
    private static final String[] REPORTS = {"0:0,10", "5:x", "-5:-20,20~3", "10:-500,500~20", "200:1,2", "-200:x",
        "7:-3,9~1", "100:499,500", "-100:-500,-499", "30:2,1", "-199:0,60~20", "~", "0:0,"};

    private static final Check check = new Check();

    public static void main(String[] args) {
        for (int seed = 0; seed < 600; seed++) {
            run(new Random(seed), seed);
        }
        check.end("AnyCallTest");
    }

    private static void run(Random random, int seed) {
        ShadowSpans x = new ShadowSpans();
        int calls = 0;
        while (calls < 700) {
            if (random.nextInt(20) == 0) {
                String report = REPORTS[random.nextInt(REPORTS.length)];
                Check.report(x, report);
                calls += report.length() + 2;
            } else {
                one(random, x, seed, calls + 3 <= 512);
                calls += 3;
            }
        }
    }

    private static void one(Random random, ShadowSpans x, int seed, boolean promised) {
        int kind = random.nextInt(18);
        int a = HARD[random.nextInt(HARD.length)];
        int b = HARD[random.nextInt(HARD.length)];
        int c = random.nextInt(3) == 0 ? HARD[random.nextInt(HARD.length)] : random.nextInt(2);
        String call = "seed " + seed + ": call " + kind + " of " + a + ", " + b + ", " + c;
        try {
            long before = x.digest();
            long answer = call(x, kind, a, b, c);
            boolean asks = kind == 2 || kind >= 7;
            boolean refused = answer < ShadowSpans.NONE && answer >= ShadowSpans.OUT && kind != 17;
            long behind = x.digest();
            if (promised && (asks || refused)) {
                check.due(call + " changes nothing", behind, before);
            }
        } catch (RuntimeException e) {
            check.due(call + " throws " + e, false);
        }
    }

    private static long call(ShadowSpans x, int kind, int a, int b, int c) {
        switch (kind) {
            case 0: return x.letter(a);
            case 1: return x.blank();
            case 2: return x.fault();
            case 3: return x.report();
            case 4: return x.drop(a);
            case 5: return x.error(a, b);
            case 6: return x.speed(a);
            case 7: return x.station(a, b);
            case 8: return x.at(a);
            case 9: return x.fits();
            case 10: return x.wrong();
            case 11: return x.kernel(a);
            case 12: return x.corner(a, b);
            case 13: return x.holds(a, b, c);
            case 14: return x.reach(a, c, b);
            case 15: return x.lasts(a, c);
            case 16: return x.count(a);
            default: return x.digest();
        }
    }
}
