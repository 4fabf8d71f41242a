/** Promises 18 and 19: count, digest; and that refusals change nothing. */
public final class ToldTest {
    private static final Check check = new Check();
    private static final int NONE = ShadowSpans.NONE;
    private static final int OUT = ShadowSpans.OUT;

    public static void main(String[] args) {
        count();
        digestOfNothing();
        digestOfMisses();
        digestOfAChord();
        digestOfNoFit();
        refusalsChangeNothing();
        check.end("ToldTest");
    }

    private static void countsAre(ShadowSpans x, int... due) {
        for (int what = 0; what < due.length; what++) {
            check.due("count(" + what + ")", x.count(what), due[what]);
        }
    }

    private static void count() {
        ShadowSpans x = Check.with("0:0,10", "5:x", "6:x", "-9:1,9");
        Check.type(x, "1:");
        x.speed(4);
        countsAre(x, 4, 2, 2, 4, 4, 0);
        x.report();
        countsAre(x, 4, 2, 2, 4, 4, 0);
        x.drop(1);
        x.drop(0);
        x.drop(7);
        countsAre(x, 2, 1, 2, 4, 4, 2);
        x.letter('x');
        x.report();
        countsAre(x, 3, 2, 0, 4, 5, 2);
        int[] outside = {-1, 6, Integer.MIN_VALUE, Integer.MAX_VALUE};
        for (int what : outside) {
            check.due("count(" + what + ")", x.count(what), ShadowSpans.OUTSIDE);
        }
    }

    private static void digestOfNothing() {
        ShadowSpans x = new ShadowSpans();
        check.due("digest() of nothing", x.digest(), Check.fold(1, 0, 0, 0, 0, 0, 0, 0, 0, 10, 0, 0));
        Check.type(x, "~ 0");
        check.due("digest() of letters", x.digest(),
            Check.fold(1, 0, 0, 0, 0, 0, 126, 32, 48, 0, 0, 3, 10, 0, 0));
    }

    private static void digestOfMisses() {
        ShadowSpans x = Check.with("5:x");
        check.due("digest() of a miss", x.digest(), Check.fold(5, 1, NONE, NONE, NONE, NONE, NONE, NONE, NONE,
            1, 0, 0, 0, 0, 0, 1, 1, 0, 10, 1, 0));
    }

    private static void digestOfAChord() {
        ShadowSpans x = Check.with("5:x", "60:x", "50:-2,7~1", "-1:x");
        x.drop(3);
        x.letter('-');
        long due = Check.fold(5, 1, NONE, NONE, NONE, NONE, NONE, NONE, NONE,
            60, 1, NONE, NONE, NONE, NONE, NONE, NONE, NONE,
            50, 0, -2, 7, 1, -30, -10, 60, 80,
            1, 0, 2, 0, 4900, 0, -10, 50, 60, 50,
            OUT, OUT, OUT, OUT, OUT, OUT, OUT, OUT, OUT, OUT, OUT, OUT, OUT, OUT, OUT, OUT, OUT, OUT, OUT, OUT,
            -30, 1, 80, 1,
            OUT, OUT, OUT, OUT, OUT, OUT, OUT, OUT, OUT, OUT, OUT, OUT,
            45, 3, 2, 1, 10, 4, 1);
        check.due("digest() of a chord", x.digest(), due);
        x.drop(0);
        x.drop(0);
        due = Check.fold(50, 0, -2, 7, 1, -30, -10, 60, 80,
            1, 0, 2, 0, 4900, 0, -10, 50, 60, 50,
            NONE, NONE, NONE, NONE, NONE, NONE, NONE, NONE, NONE, NONE, NONE, NONE, NONE, NONE, NONE, NONE,
            NONE, NONE, NONE, NONE, -30, 1, 80, 1,
            NONE, NONE, NONE, NONE, NONE, NONE, NONE, NONE, NONE, NONE, NONE, NONE,
            45, 1, 0, 1, 10, 4, 3);
        check.due("digest() of a chord alone", x.digest(), due);
    }

    private static void digestOfNoFit() {
        ShadowSpans x = Check.with("0:0,1", "1:x", "2:0,1");
        check.due("digest() of what does not FIT", x.digest(), Check.fold(0, 0, 0, 1, 0, 0, 0, 10, 10,
            1, 1, NONE, NONE, NONE, NONE, NONE, NONE, NONE, 2, 0, 0, 1, 0, 0, 0, 10, 10,
            0, 1, 3, 1, 0, 10, 3, 0));
    }

    private static void refusalsChangeNothing() {
        ShadowSpans x = Check.with("0:0,10~2", "20:1,9", "30:x");
        Check.type(x, "0:x");
        long before = x.digest();
        x.letter(31);
        x.report();
        x.drop(3);
        x.drop(-1);
        x.error(0, 5);
        x.error(2, 0);
        x.error(3, 0);
        x.error(0, 21);
        x.speed(0);
        x.speed(21);
        x.station(9, 0);
        x.at(300);
        x.kernel(7);
        x.corner(9, 0);
        x.holds(201, 0, 0);
        x.reach(0, 0, 2);
        x.lasts(0, 2);
        x.count(6);
        check.due("digest() behind refusals", x.digest(), before);
        check.due("digest() asked again", x.digest(), before);
    }
}
