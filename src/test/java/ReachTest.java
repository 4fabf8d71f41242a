/** Promises 16 and 17: reach, lasts. */
public final class ReachTest {
    private static final Check check = new Check();
    private static final int OUT = ShadowSpans.OUT;
    private static final int NONE = ShadowSpans.NONE;

    public static void main(String[] args) {
        oneChord();
        twoChords();
        byError();
        threeChords();
        ends();
        misses();
        extremes();
        refusals();
        lasts();
        check.end("ReachTest");
    }

    private static void reachIs(ShadowSpans x, int h, int... due) {
        for (int i = 0; i < 4; i++) {
            check.due("reach(" + h + ", " + i / 2 + ", " + i % 2 + ")", x.reach(h, i / 2, i % 2), due[i]);
        }
    }

    private static void reachIs(ShadowSpans x, int h, int both) {
        reachIs(x, h, both, both, both, both);
    }

    private static void oneChord() {
        ShadowSpans x = Check.with("0:-4,9~2");
        reachIs(x, 0, -60, 1, 110, 1);
        int[] heights = {-200, -1, 1, 200};
        for (int h : heights) {
            reachIs(x, h, NONE);
            check.due("lasts(" + h + ", 1)", x.lasts(h, 1), NONE);
            check.due("lasts(" + h + ", 0)", x.lasts(h, 0), 0);
        }
        check.due("lasts(0, 1)", x.lasts(0, 1), 17);
        check.due("lasts(0, 0)", x.lasts(0, 0), 9);
    }

    private static void twoChords() {
        ShadowSpans x = Check.with("0:0,10", "10:2,9");
        reachIs(x, 0, 0, 1, 100, 1);
        reachIs(x, 10, 20, 1, 90, 1);
        reachIs(x, 5, NONE);
        reachIs(x, 1, NONE);
        reachIs(x, 9, NONE);
        reachIs(x, 11, 22, 1, 89, 1);
        reachIs(x, -3, -6, 1, 103, 1);
        // both sides meet: 2 * h at 100 - h, so that 100 / 3 is the highest
        reachIs(x, 33, 66, 1, 67, 1);
        reachIs(x, 34, OUT);
        reachIs(x, 200, OUT);
        reachIs(x, -200, -400, 1, 300, 1);
        // they meet in one point at a whole height
        ShadowSpans y = Check.with("0:0,10", "10:2,8");
        reachIs(y, 25, 50, 1, 50, 1);
        reachIs(y, 26, OUT);
        check.due("lasts(25, 1)", y.lasts(25, 1), 0);
        check.due("lasts(24, 1)", y.lasts(24, 1), 1);
        check.due("lasts(26, 1)", y.lasts(26, 1), 0);
        // meeting below 0
        ShadowSpans z = Check.with("0:0,10", "-7:1,10");
        z.speed(1);
        reachIs(z, -8, 8, 7, 10, 1);
        reachIs(z, -70, 10, 1, 10, 1);
        reachIs(z, -71, OUT);
        reachIs(z, 3, -3, 7, 10, 1);
    }

    private static void byError() {
        // from an innermost end through an outermost one: from (20, 0) through (-20, 10)
        ShadowSpans x = Check.with("0:0,20~2", "10:0,20~2");
        reachIs(x, 0, -20, 1, 220, 1);
        reachIs(x, 10, -20, 1, 220, 1);
        reachIs(x, 20, -60, 1, 260, 1);
        reachIs(x, 15, -40, 1, 240, 1);
        reachIs(x, -10, -60, 1, 260, 1);
        reachIs(x, 5, NONE);
        x.error(0, 0);
        reachIs(x, 20, -40, 1, 240, 1);
        reachIs(x, -10, -20, 1, 220, 1);
    }

    private static void threeChords() {
        // between the lower two only the line from above binds, and the other way round
        ShadowSpans x = Check.with("0:0,100", "10:-5,105", "20:-6,106");
        reachIs(x, 5, -45, 1, 1045, 1);
        reachIs(x, 9, -49, 1, 1049, 1);
        reachIs(x, 15, -75, 1, 1075, 1);
        reachIs(x, 12, -60, 1, 1060, 1);
        reachIs(x, 0, 0, 1, 1000, 1);
        reachIs(x, 10, -50, 1, 1050, 1);
        reachIs(x, 25, -65, 1, 1065, 1);
        reachIs(x, -1, 5, 1, 995, 1);
        // with four, between the middle two the nearer of both lines binds
        ShadowSpans y = Check.with("0:0,100", "10:-4,104", "20:-5,105", "30:-3,103");
        reachIs(y, 12, -48, 1, 1048, 1);
        reachIs(y, 14, -56, 1, 1056, 1);
        reachIs(y, 15, -60, 1, 1060, 1);
        reachIs(y, 19, -52, 1, 1052, 1);
        reachIs(y, 16, -58, 1, 1058, 1);
    }

    private static void ends() {
        // a chord's own bound, and less where the others bind it: 0 and 20 allow (-10, 10) only by the line
        ShadowSpans x = Check.with("0:0,100", "10:0,100~9", "20:0,100", "30:1,99");
        reachIs(x, 10, -10, 1, 1010, 1);
        x.drop(3);
        reachIs(x, 10, -90, 1, 1090, 1);
        ShadowSpans y = Check.with("0:0,100~1", "10:0,100", "20:10,90", "40:30,71~20");
        reachIs(y, 0, -10, 1, 1010, 1);
        // from (0, 10) through (100, 20), not the own 300 - 200
        reachIs(y, 40, 300, 1, 700, 1);
    }

    private static void misses() {
        ShadowSpans x = Check.with("0:0,10", "10:0,10", "13:x", "-5:x", "-200:x", "90:x");
        reachIs(x, 12, 0, 1, 100, 1);
        reachIs(x, 13, OUT);
        reachIs(x, 14, OUT);
        reachIs(x, 200, OUT);
        reachIs(x, -4, 0, 1, 100, 1);
        reachIs(x, -5, OUT);
        reachIs(x, -6, OUT);
        reachIs(x, -200, OUT);
        reachIs(x, 5, NONE);
        ShadowSpans y = Check.with("3:x", "0:0,10");
        reachIs(y, 2, NONE);
        reachIs(y, 3, OUT);
        reachIs(y, -200, NONE);
        check.due("lasts(3, 1)", y.lasts(3, 1), 0);
        check.due("lasts(2, 1)", y.lasts(2, 1), NONE);
    }

    private static void extremes() {
        ShadowSpans x = Check.with("-200:-500,500", "-199:-500,500~20");
        x.speed(20);
        reachIs(x, 200, -10000 - 400 * 400, 1, 10000 + 400 * 400, 1);
        check.due("the longest", x.lasts(200, 1), 2 * (10000 + 400 * 400) / 20);
        ShadowSpans y = Check.with("-200:499,500", "-199:-500,500");
        y.speed(20);
        reachIs(y, 200, 9980 - 19980 * 400, 1, 10000, 1);
        reachIs(y, -199, -10000, 1, 10000, 1);
        ShadowSpans z = Check.with("-200:-500,500~20", "199:-499,499~18");
        z.speed(20);
        // from 20 * -480 through 20 * -517, 400 / 399 of the way
        reachIs(z, 200, -9600 * 399 - 740 * 400, 399, 9600 * 399 + 740 * 400, 399);
    }

    private static void refusals() {
        ShadowSpans fine = Check.with("0:0,10");
        ShadowSpans empty = new ShadowSpans();
        ShadowSpans missed = Check.with("0:x", "1:x");
        ShadowSpans bad = Check.with("0:0,10", "5:x", "10:0,10");
        int[][] amiss = {{-201, 0, 0}, {201, 1, 1}, {0, -1, 0}, {0, 2, 0}, {0, 0, -1}, {0, 0, 2},
            {Integer.MIN_VALUE, 0, 0}, {Integer.MAX_VALUE, 0, 0}};
        ShadowSpans[] all = {fine, empty, missed, bad};
        for (ShadowSpans x : all) {
            for (int[] a : amiss) {
                check.due("reach, OUTSIDE", x.reach(a[0], a[1], a[2]), ShadowSpans.OUTSIDE);
            }
            check.due("lasts(-201, 0)", x.lasts(-201, 0), ShadowSpans.OUTSIDE);
            check.due("lasts(201, 1)", x.lasts(201, 1), ShadowSpans.OUTSIDE);
            check.due("lasts(0, -1)", x.lasts(0, -1), ShadowSpans.OUTSIDE);
            check.due("lasts(0, 2)", x.lasts(0, 2), ShadowSpans.OUTSIDE);
        }
        ShadowSpans[] refused = {empty, missed, bad};
        for (ShadowSpans x : refused) {
            check.due("reach, STATE", x.reach(0, 0, 0), ShadowSpans.STATE);
            check.due("reach, STATE", x.reach(200, 1, 1), ShadowSpans.STATE);
            check.due("lasts 0, STATE", x.lasts(0, 0), ShadowSpans.STATE);
            check.due("lasts 1, STATE", x.lasts(-200, 1), ShadowSpans.STATE);
        }
    }

    private static void lasts() {
        ShadowSpans x = Check.with("0:0,10", "3:1,10", "-3:1,10");
        x.speed(7);
        // 10 - 1/3 ticks, down; and up by a side that only the third chord binds: from (7, -3) through (0, 0)
        check.due("lasts(1, 0)", x.lasts(1, 0), 9);
        check.due("lasts(2, 0)", x.lasts(2, 0), 9);
        check.due("lasts(0, 0)", x.lasts(0, 0), 10);
        check.due("lasts(3, 0)", x.lasts(3, 0), 9);
        check.due("lasts(4, 0)", x.lasts(4, 0), 0);
        check.due("lasts(1, 1)", x.lasts(1, 1), 11);
        check.due("lasts(0, 1)", x.lasts(0, 1), 10);
        check.due("lasts(3, 1)", x.lasts(3, 1), 9);
        check.due("lasts(4, 1)", x.lasts(4, 1), 9);
        check.due("lasts(6, 1)", x.lasts(6, 1), 8);
        check.due("lasts(30, 1)", x.lasts(30, 1), 0);
        check.due("lasts(29, 1)", x.lasts(29, 1), 1);
        check.due("lasts(31, 1)", x.lasts(31, 1), 0);
        check.due("lasts(-31, 1)", x.lasts(-31, 1), 0);
        check.due("lasts(-6, 1)", x.lasts(-6, 1), 8);
    }
}
