/** Promises 13 to 15: kernel, corner, holds. */
public final class KernelTest {
    private static final Check check = new Check();
    private static final int OUT = ShadowSpans.OUT;

    public static void main(String[] args) {
        empty();
        oneChord();
        square();
        cornersOnEdges();
        slanted();
        sixteenCorners();
        byError();
        extremes();
        refusals();
        holds();
        check.end("KernelTest");
    }

    private static void kernelIs(String name, ShadowSpans x, int... due) {
        for (int what = 0; what <= 3; what++) {
            check.due(name + " kernel(" + what + ")", x.kernel(what), due[what]);
        }
    }

    private static void cornersAre(String name, ShadowSpans x, int... due) {
        check.due(name + " CORNERS", x.kernel(0), due.length / 2);
        for (int i = 0; i < due.length; i++) {
            check.due(name + " corner(" + i / 2 + ", " + i % 2 + ")", x.corner(i / 2, i % 2), due[i]);
        }
        check.due(name + " corner behind the last", x.corner(due.length / 2, 0), ShadowSpans.UNKNOWN);
        check.due(name + " corner(-1, 0)", x.corner(-1, 0), ShadowSpans.UNKNOWN);
    }

    private static void holdsAre(ShadowSpans x, int h, int... due) {
        for (int i = 0; i < 4; i++) {
            check.due("holds(" + h + ", " + i / 2 + ", " + i % 2 + ")", x.holds(h, i / 2, i % 2), due[i]);
        }
    }

    private static void empty() {
        kernelIs("nothing", new ShadowSpans(), 0, 0, 0, 0);
        ShadowSpans x = Check.with("0:x", "5:x");
        kernelIs("misses", x, 0, 0, 0, 0);
        cornersAre("misses", x);
        holdsAre(x, 0, OUT, OUT, OUT, OUT);
        holdsAre(x, 3, OUT, OUT, OUT, OUT);
    }

    private static void oneChord() {
        ShadowSpans x = Check.with("-9:-5,20~3", "7:x");
        kernelIs("one chord", x, 2, 0, 190 * 190, 0);
        cornersAre("one chord", x, -20, -9, 170, -9);
        holdsAre(x, -9, -20, 1, 170, 1);
        holdsAre(x, -10, OUT, OUT, OUT, OUT);
        holdsAre(x, -8, OUT, OUT, OUT, OUT);
        holdsAre(x, 7, OUT, OUT, OUT, OUT);
    }

    private static void square() {
        ShadowSpans x = Check.with("10:0,1", "0:0,1");
        // of several of the least x the one of least h comes first
        cornersAre("a square", x, 0, 0, 10, 0, 10, 10, 0, 10);
        kernelIs("a square", x, 4, 200, 200, 100);
    }

    private static void cornersOnEdges() {
        ShadowSpans x = Check.with("0:0,40", "10:6,34~6", "20:0,40");
        cornersAre("points within", x, 0, 0, 400, 0, 400, 20, 0, 20);
        ShadowSpans y = Check.with("0:0,4", "10:0,3", "20:0,2");
        cornersAre("points on edges", y, 0, 0, 40, 0, 20, 20, 0, 20);
        kernelIs("points on edges", y, 4, 2 * 20 * 30, 40 * 40 + 20 * 20, 400);
    }

    private static void slanted() {
        // a parallelogram (0,0) (10,0) (40,30) (30,30): its narrow way is across the long edges,
        // 300 * 300 / (30 * 30 + 30 * 30) = 50
        ShadowSpans x = Check.with("0:0,1", "30:3,4");
        kernelIs("slanted", x, 4, 600, 1600 + 900, 50);
        ShadowSpans y = Check.with("0:0,3", "7:5,9");
        y.speed(1);
        cornersAre("rounded", y, 0, 0, 3, 0, 9, 7, 5, 7);
        // along the edge from (3,0) to (9,7): (5,7) is the farthest, 28 * 28 / 85 = 9.2..; along that from
        // (5,7) to (0,0): (9,7), 28 * 28 / 74 = 10.5..; along the others 7 * 7
        kernelIs("rounded", y, 4, 49, 81 + 49, 9);
    }

    private static void sixteenCorners() {
        ShadowSpans x = Check.with("7:-51,51", "-7:-51,51", "5:-75,75", "-5:-75,75", "3:-91,91", "-3:-91,91",
            "1:-99,99", "-1:-99,99");
        x.speed(1);
        cornersAre("sixteen", x, -99, -1, -91, -3, -75, -5, -51, -7, 51, -7, 75, -5, 91, -3, 99, -1,
            99, 1, 91, 3, 75, 5, 51, 7, -51, 7, -75, 5, -91, 3, -99, 1);
        // slices of 2 by 126, 166, 190, 198 and the same below
        kernelIs("sixteen", x, 16, 4 * (2 * (126 + 166 + 190) + 198), 198 * 198 + 4, 14 * 14);
        x.drop(7);
        cornersAre("fourteen", x, -99, 1, -91, -3, -75, -5, -51, -7, 51, -7, 75, -5, 91, -3,
            99, 1, 91, 3, 75, 5, 51, 7, -51, 7, -75, 5, -91, 3);
    }

    private static void byError() {
        ShadowSpans x = Check.with("0:0,10", "10:0,10");
        kernelIs("by no error", x, 4, 2000, 10100, 100);
        x.error(1, 2);
        cornersAre("by an error", x, 0, 0, 100, 0, 80, 10, 20, 10);
        kernelIs("by an error", x, 4, 1600, 10000, 100);
        x.error(0, 4);
        cornersAre("by two errors", x, 20, 10, 40, 0, 60, 0, 80, 10);
        holdsAre(x, 5, 30, 1, 70, 1);
        Check.type(x, "-10:4,6");
        x.report();
        cornersAre("by one more", x, 20, 10, 40, -10, 60, -10, 80, 10);
    }

    private static void extremes() {
        ShadowSpans x = Check.with("-200:-500,500", "200:-500,500");
        x.speed(20);
        cornersAre("the greatest", x, -10000, -200, 10000, -200, 10000, 200, -10000, 200);
        kernelIs("the greatest", x, 4, 16000000, 400160000, 160000);
        ShadowSpans y = Check.with("-200:-500,-499", "200:499,500");
        y.speed(20);
        // 20 wide, 400 high, 19980 aslant: (20 * 400)^2 / (19980^2 + 400^2) = 0.16
        kernelIs("the slimmest", y, 4, 16000, 400160000, 0);
        ShadowSpans z = Check.with("0:-500,500~20", "1:-500,500~20");
        z.speed(20);
        kernelIs("low", z, 4, 2 * 19200, 19200 * 19200 + 1, 1);
    }

    private static void refusals() {
        ShadowSpans x = Check.with("0:0,10");
        int[] outside = {-1, 4, Integer.MIN_VALUE, Integer.MAX_VALUE};
        for (int what : outside) {
            check.due("kernel(" + what + ")", x.kernel(what), ShadowSpans.OUTSIDE);
            check.due("corner(0, " + what + ")", x.corner(0, what), ShadowSpans.OUTSIDE);
        }
        check.due("OUTSIDE ahead of UNKNOWN", x.corner(9, 2), ShadowSpans.OUTSIDE);
        check.due("corner(2, 0)", x.corner(2, 0), ShadowSpans.UNKNOWN);
        check.due("corner(MIN, 0)", x.corner(Integer.MIN_VALUE, 0), ShadowSpans.UNKNOWN);
        check.due("corner(MAX, 1)", x.corner(Integer.MAX_VALUE, 1), ShadowSpans.UNKNOWN);
        int[][] amiss = {{-201, 0, 0}, {201, 0, 0}, {0, -1, 0}, {0, 2, 0}, {0, 0, -1}, {0, 0, 2}};
        ShadowSpans bad = Check.with("0:0,10", "5:x", "10:0,10");
        for (int[] a : amiss) {
            check.due("holds, OUTSIDE", x.holds(a[0], a[1], a[2]), ShadowSpans.OUTSIDE);
            check.due("holds, OUTSIDE ahead of STATE", bad.holds(a[0], a[1], a[2]), ShadowSpans.OUTSIDE);
        }
        for (int what = 0; what <= 3; what++) {
            check.due("kernel(" + what + "), not FIT", bad.kernel(what), ShadowSpans.STATE);
        }
        check.due("kernel(4), not FIT", bad.kernel(4), ShadowSpans.OUTSIDE);
        check.due("corner, OUTSIDE ahead of STATE", bad.corner(0, 2), ShadowSpans.OUTSIDE);
        check.due("corner, not FIT", bad.corner(0, 0), ShadowSpans.STATE);
        check.due("corner, STATE ahead of UNKNOWN", bad.corner(99, 1), ShadowSpans.STATE);
        check.due("holds, not FIT", bad.holds(0, 0, 0), ShadowSpans.STATE);
        check.due("holds, not FIT", bad.holds(100, 1, 1), ShadowSpans.STATE);
    }

    private static void holds() {
        ShadowSpans x = Check.with("0:-1,1", "3:0,2");
        x.speed(1);
        holdsAre(x, 0, -1, 1, 1, 1);
        holdsAre(x, 1, -2, 3, 4, 3);
        holdsAre(x, 2, -1, 3, 5, 3);
        // 0 is 0 by 1
        holdsAre(x, 3, 0, 1, 2, 1);
        holdsAre(x, 4, OUT, OUT, OUT, OUT);
        holdsAre(x, -1, OUT, OUT, OUT, OUT);
        holdsAre(x, 200, OUT, OUT, OUT, OUT);
        holdsAre(x, -200, OUT, OUT, OUT, OUT);
        // the end at h itself need not be the farthest out: 10 by 2 ticks of ERROR lies within the line
        ShadowSpans y = Check.with("0:0,100", "10:8,92~8", "20:0,100");
        holdsAre(y, 10, 0, 1, 1000, 1);
        // lowest terms: 100 * 2 / 4
        ShadowSpans z = Check.with("0:0,100", "4:10,101");
        holdsAre(z, 2, 50, 1, 1005, 1);
        holdsAre(z, 1, 25, 1, 2005, 2);
        z.speed(7);
        holdsAre(z, 3, 105, 2, 2821, 4);
        // a third chord farther out is asked too
        ShadowSpans w = Check.with("0:0,10", "6:-6,20", "9:0,10", "20:x");
        w.speed(1);
        holdsAre(w, 1, -1, 1, 35, 3);
        holdsAre(w, 7, -4, 1, 50, 3);
        holdsAre(w, 20, OUT, OUT, OUT, OUT);
    }
}
