/** The terms of reach, and promises 16 and 17, reach, lasts: each boundary, and a step to each side of it. */
final class ReachBounds {
    private static final int NONE = ShadowSpans.NONE;
    private static final int OUTSIDE = ShadowSpans.OUTSIDE;
    private static final int STATE = ShadowSpans.STATE;
    private static final int OUT = ShadowSpans.OUT;
    private static final int[] FAR = {Integer.MIN_VALUE, Integer.MAX_VALUE};
    private static final int[] SPEEDS = {1, 7, 10, 20};
    private static final String[] SIDES = {"0:-3,5", "3:-4,12~1", "5:-5,13"};
    private static final String REACH = "REACH at h (-200 to 200; if STATIONS FIT, and one at least did not MISS): from the"
        + " least x on, that a point at h of any BODY that FITS all STATIONS has, to the greatest, as fractions;";
    private static final String NOWHERE = "OUT (on both sides), if no such BODY has a point at h.";

    private final Check check;

    ReachBounds(Check check) {
        this.check = check;
    }

    void all() {
        ofOneChord();
        ofTwoChords();
        ofMoreChords();
        ownBound();
        farthest();
        none();
        outWhereSidesMeet();
        outBehindAMiss();
        forSure();
        atMost();
        reachCall();
        reachOutside();
        reachState();
        lastsCall();
        lastsOutside();
        lastsState();
    }

    private static ShadowSpans with(int speed, String... reports) {
        ShadowSpans x = Check.with(reports);
        x.speed(speed);
        return x;
    }

    private static ShadowSpans unfit() {
        return Check.with("0:0,10", "5:x", "10:0,10");
    }

    /** At SPEED 1, from each side: two fractions, or NONE or OUT for all. */
    private void reach(String[] reports, int h, int... due) {
        String[][] all = Turned.all(reports);
        for (int turn = 0; turn < all.length; turn++) {
            ShadowSpans x = with(1, all[turn]);
            boolean mirrored = turn % 2 == 1;
            int height = turn < 2 ? h : -h;
            for (int i = 0; i < 4; i++) {
                int number = due[0];
                if (due.length > 1) {
                    int from = mirrored ? (i + 2) % 4 : i;
                    number = mirrored && i % 2 == 0 ? -due[from] : due[from];
                }
                check.due(String.join(" ", all[turn]) + ", reach(" + height + ", " + i / 2 + ", " + i % 2 + ")",
                    x.reach(height, i / 2, i % 2), number);
            }
        }
    }

    private static String[] of(String... reports) {
        return reports;
    }

    private void ofOneChord() {
        check.sentence("Terms", REACH);
        reach(of("5:-4,9"), 5, -4, 1, 9, 1);
        reach(of("5:-4,9~1"), 5, -5, 1, 10, 1);
        reach(of("5:-40,9~20"), 5, -60, 1, 29, 1);
        reach(of("200:0,1"), 200, 0, 1, 1, 1);
        reach(of("-200:-500,500~20"), -200, -520, 1, 520, 1);
        ShadowSpans x = Check.with("0:x");
        check.due("when all MISSED", x.reach(0, 0, 0), STATE);
        Check.report(x, "1:0,9");
        check.due("when one did not", x.reach(1, 0, 0), 0);
        check.due("when one did not", x.reach(1, 1, 0), 90);
    }

    private void ofTwoChords() {
        check.sentence("Terms", REACH);
        // sides that go on in parallel, as far as heights go
        String[] parallel = of("0:0,10", "100:10,20");
        reach(parallel, 100, 10, 1, 20, 1);
        reach(parallel, 101, 101, 10, 201, 10);
        reach(parallel, 199, 199, 10, 299, 10);
        reach(parallel, 200, 20, 1, 30, 1);
        reach(parallel, 0, 0, 1, 10, 1);
        reach(parallel, -1, -1, 10, 99, 10);
        reach(parallel, -199, -199, 10, -99, 10);
        reach(parallel, -200, -20, 1, -10, 1);
        // from an innermost end through an outermost one: from (2, 0) through (-2, 10) and so on
        String[] both = of("0:0,20~2", "10:0,20~2");
        reach(both, 0, -2, 1, 22, 1);
        reach(both, 10, -2, 1, 22, 1);
        reach(both, 11, -12, 5, 112, 5);
        reach(both, 20, -6, 1, 26, 1);
        reach(both, -10, -6, 1, 26, 1);
        String[] low = of("0:0,20", "10:0,20~2");
        reach(low, 20, -4, 1, 24, 1);
        reach(low, -10, -2, 1, 22, 1);
        // a tick of ERROR more, at the near chord and at the far one
        reach(of("0:0,20", "10:0,20~3"), 20, -6, 1, 26, 1);
        reach(of("0:0,20~1", "10:0,20~2"), 20, -5, 1, 25, 1);
    }

    private void ofMoreChords() {
        check.sentence("Terms", REACH);
        // between two, the line from a third binds
        String[] three = of("0:0,100", "10:-5,105", "20:-6,106");
        reach(three, 1, -41, 10, 1041, 10);
        reach(three, 5, -9, 2, 209, 2);
        reach(three, 9, -49, 10, 1049, 10);
        reach(three, 10, -5, 1, 105, 1);
        reach(three, 11, -11, 2, 211, 2);
        reach(three, 15, -15, 2, 215, 2);
        reach(three, 19, -19, 2, 219, 2);
        reach(three, 20, -6, 1, 106, 1);
        reach(three, 21, -61, 10, 1061, 10);
        reach(three, 0, 0, 1, 100, 1);
        reach(three, -1, 1, 2, 199, 2);
        // between the middle two of four, the line that binds changes where both meet, at 15
        String[] four = of("0:0,100", "10:-4,104", "20:-5,105", "30:-4,104");
        reach(four, 14, -28, 5, 528, 5);
        reach(four, 16, -27, 5, 527, 5);
        reach(four, 19, -51, 10, 1051, 10);
        reach(four, 11, -22, 5, 522, 5);
        // the left by the first and the third, the right by the second and the third
        reach(SIDES, 6, -27, 5, 14, 1);
        reach(SIDES, 7, -29, 5, 15, 1);
        reach(SIDES, 8, -31, 5, 16, 1);
    }

    private void ownBound() {
        check.sentence("Terms", REACH);
        // others bind a chord at -1, so that its own ERROR matters up to 1
        int[] due = {0, -1, -1, -1};
        for (int error = 0; error < due.length; error++) {
            String own = error == 0 ? "" : "~" + error;
            reach(of("0:0,100", "10:0,100" + own, "20:0,100", "30:1,99"), 10, due[error], 1, 100 - due[error], 1);
        }
        reach(of("0:0,100", "10:0,100~20", "20:0,100", "30:1,99"), 10, -1, 1, 101, 1);
        reach(of("0:0,100", "10:0,100~20", "20:0,100"), 10, -20, 1, 120, 1);
    }

    private void farthest() {
        check.sentence("Terms", REACH);
        reach(of("-200:499,500", "-199:-500,500"), 200, 499 - 999 * 400, 1, 500, 1);
        reach(of("-200:499,500", "-199:-500,500"), 199, 499 - 999 * 399, 1, 500, 1);
        ShadowSpans x = with(20, "-200:-500,500", "-199:-500,500~20");
        check.due("at SPEED 20, reach(200, 0, 0)", x.reach(200, 0, 0), -10000 - 400 * 400);
        check.due("at SPEED 20, reach(200, 1, 0)", x.reach(200, 1, 0), 10000 + 400 * 400);
        // the greatest number below
        reach(of("-200:0,500", "199:1,500"), 200, 400, 399, 500, 1);
    }

    private void none() {
        check.sentence("Terms", "NONE, if it can be as far as one likes on that side;");
        int[] heights = {-200, -1, 1, 200};
        for (int h : heights) {
            reach(of("0:-4,9~2"), h, NONE);
        }
        reach(of("0:-4,9~2"), 0, -6, 1, 11, 1);
        // between two chords; not at them, and not beyond
        String[] two = of("0:0,10", "3:0,10");
        reach(two, -1, 0, 1, 10, 1);
        reach(two, 0, 0, 1, 10, 1);
        reach(two, 1, NONE);
        reach(two, 2, NONE);
        reach(two, 3, 0, 1, 10, 1);
        reach(two, 4, 0, 1, 10, 1);
        reach(of("-200:0,10", "200:0,10"), 0, NONE);
        reach(of("-200:0,10", "200:0,10"), 199, NONE);
        reach(of("-200:0,10", "200:0,10"), -200, 0, 1, 10, 1);
        // a third chord ends it on either side of the two
        reach(of("0:0,10", "3:0,10", "4:0,10"), 1, 0, 1, 10, 1);
        reach(of("0:0,10", "3:0,10", "-1:0,10"), 1, 0, 1, 10, 1);
        reach(of("0:0,10", "3:0,10", "4:x"), 1, NONE);
    }

    private void outWhereSidesMeet() {
        check.sentence("Terms", NOWHERE);
        // 2 a step from the left and 2 from the right: a point at 25
        String[] point = of("0:0,100", "10:20,80");
        reach(point, 24, 48, 1, 52, 1);
        reach(point, 25, 50, 1, 50, 1);
        reach(point, 26, OUT);
        reach(point, 200, OUT);
        reach(point, -200, -400, 1, 500, 1);
        // between two heights: 2 from the left, 1 from the right, at 100 / 3
        String[] between = of("0:0,100", "10:20,90");
        reach(between, 33, 66, 1, 67, 1);
        reach(between, 34, OUT);
        // at the last height there is, and a step behind it
        String[] last = of("0:0,200", "10:10,200");
        reach(last, 199, 199, 1, 200, 1);
        reach(last, 200, 200, 1, 200, 1);
        reach(of("-1:0,200", "9:10,200"), 199, 200, 1, 200, 1);
        reach(of("-1:0,200", "9:10,200"), 200, OUT);
        // the least that the sides can cross by
        reach(of("0:0,10", "1:1,10"), 9, 9, 1, 10, 1);
        reach(of("0:0,10", "1:1,10"), 10, 10, 1, 10, 1);
        reach(of("0:0,10", "1:1,10"), 11, OUT);
        // ERROR puts it off
        reach(of("0:0,100", "10:20,80~1"), 26, 247, 5, 253, 5);
    }

    private void outBehindAMiss() {
        check.sentence("Terms", NOWHERE);
        String[] one = of("0:0,10", "3:x");
        reach(one, 2, NONE);
        reach(one, 3, OUT);
        reach(one, 4, OUT);
        reach(one, 200, OUT);
        reach(one, -1, NONE);
        reach(one, -200, NONE);
        reach(one, 0, 0, 1, 10, 1);
        String[] two = of("0:0,10", "10:0,10", "12:x", "-2:x", "100:x");
        reach(two, 11, 0, 1, 10, 1);
        reach(two, 12, OUT);
        reach(two, 13, OUT);
        reach(two, 100, OUT);
        reach(two, 101, OUT);
        reach(two, 5, NONE);
        reach(two, -1, 0, 1, 10, 1);
        reach(two, -2, OUT);
        reach(two, -3, OUT);
        String[] near = of("0:0,10", "1:x", "-1:x");
        reach(near, 0, 0, 1, 10, 1);
        reach(near, 1, OUT);
        reach(near, -1, OUT);
        reach(of("199:0,10", "200:x"), 200, OUT);
        reach(of("199:0,10", "200:x"), 199, 0, 1, 10, 1);
        reach(of("199:0,10", "200:x"), 198, NONE);
    }

    /** At each SPEED the ticks are the same. */
    private void lasts(String[] reports, int h, int what, int due) {
        for (int speed : SPEEDS) {
            check.due(String.join(" ", reports) + " at SPEED " + speed + ", lasts(" + h + ", " + what + ")",
                with(speed, reports).lasts(h, what), due);
        }
    }

    private void forSure() {
        check.sentence("Terms", "LASTS at h: for how many ticks a star would be gone there: for sure: how far HOLDS goes,"
            + " by SPEED, rounded down (0: OUT);");
        // 10, 9 2/3, 9 1/3, 9
        int[] thirds = {0, 10, 9, 9, 9, 0};
        int[] whole = {0, 10, 9, 8, 7, 0};
        for (int h = -1; h <= 4; h++) {
            lasts(of("0:0,10", "3:1,10"), h, 0, thirds[h + 1]);
            lasts(of("0:0,10", "3:3,10"), h, 0, whole[h + 1]);
            // 1 all along, by sevenths on each side
            lasts(of("-1:0,1", "6:5,6"), h, 0, 1);
        }
        // both sides by fractions of unlike kinds: 11 1/3, 13 2/3, 15
        lasts(of("0:0,9", "3:-7,12~3", "5:0,14"), 1, 0, 11);
        lasts(of("0:0,9", "3:-7,12~3", "5:0,14"), 2, 0, 13);
        lasts(of("0:0,9", "3:-7,12~3", "5:0,14"), 4, 0, 15);
        lasts(of("0:-20,21~20"), 0, 0, 1);
        lasts(of("0:-20,22~20"), 0, 0, 2);
        lasts(of("0:-20,22~20"), 1, 0, 0);
        lasts(of("0:-20,22~20"), -1, 0, 0);
        lasts(of("-200:-500,500", "200:-500,500"), -200, 0, 1000);
        lasts(of("-200:-500,500", "200:-500,500"), 200, 0, 1000);
        lasts(of("-199:-500,500", "199:-500,500"), 200, 0, 0);
        lasts(of("-199:-500,500", "199:-500,500"), -200, 0, 0);
    }

    private void atMost() {
        check.sentence("Terms", "at most: how far REACH goes, by SPEED, rounded up (NONE, if one side of it is; 0: OUT).");
        String[] x = of("0:0,10", "3:1,10");
        int[][] due = {{-4, 12}, {-3, 11}, {-2, 11}, {-1, 11}, {0, 10}, {1, NONE}, {2, NONE}, {3, 9}, {4, 9}, {5, 9}, {6, 8},
            {7, 8}, {26, 2}, {27, 1}, {28, 1}, {29, 1}, {30, 0}, {31, 0}, {200, 0}, {-200, 77}};
        for (int[] pair : due) {
            lasts(x, pair[0], 1, pair[1]);
        }
        // both sides by fractions of unlike kinds: 19 2/5, 20 4/5, 22 1/5
        lasts(SIDES, 6, 1, 20);
        lasts(SIDES, 7, 1, 21);
        lasts(SIDES, 8, 1, 23);
        lasts(of("0:0,10"), 0, 1, 10);
        lasts(of("0:0,10~1"), 0, 1, 12);
        lasts(of("0:0,10~1"), 1, 1, NONE);
        lasts(of("0:0,10~1"), -1, 1, NONE);
        lasts(of("0:0,10~1", "1:x"), 1, 1, 0);
        lasts(of("0:0,10~1", "2:x"), 1, 1, NONE);
        lasts(of("0:0,10~1", "2:x"), 2, 1, 0);
        lasts(of("0:0,10~1", "2:x"), 3, 1, 0);
        lasts(of("-200:-500,500", "-199:-500,500~20"), 200, 1, 17000);
        lasts(of("-200:499,500", "-199:-500,500"), 200, 1, 1 + 999 * 400);
    }

    private void reachCall() {
        check.sentence("Promise 16", "REACH at h: side 0 the least x, 1 the greatest; part 0 above, 1 below; NONE; OUT.");
        ShadowSpans x = with(1, "0:-1,30", "3:0,29", "-3:x");
        int[][] due = {{4, 1, 3, 86, 3}, {3, 0, 1, 29, 1}, {2, NONE, NONE, NONE, NONE}, {1, NONE, NONE, NONE, NONE},
            {0, -1, 1, 30, 1}, {-1, -4, 3, 91, 3}, {-2, -5, 3, 92, 3}, {-3, OUT, OUT, OUT, OUT}, {-4, OUT, OUT, OUT, OUT}};
        for (int[] d : due) {
            for (int i = 0; i < 4; i++) {
                check.due("reach(" + d[0] + ", " + i / 2 + ", " + i % 2 + ")", x.reach(d[0], i / 2, i % 2), d[1 + i]);
            }
        }
    }

    private void reachOutside() {
        check.sentence("Promise 16", "OUTSIDE: h, side, part;");
        ShadowSpans[] all = {Check.with("-200:0,10", "200:0,10"), new ShadowSpans(), Check.with("0:x"), unfit()};
        int[][] amiss = {{-201, 0, 0}, {201, 0, 0}, {FAR[0], 1, 1}, {FAR[1], 0, 0}, {0, -1, 0}, {0, 2, 0}, {0, FAR[0], 0},
            {0, FAR[1], 0}, {0, 0, -1}, {0, 0, 2}, {0, 1, FAR[0]}, {0, 1, FAR[1]}, {201, 2, 2}};
        for (ShadowSpans x : all) {
            for (int[] a : amiss) {
                check.refused("reach(" + a[0] + ", " + a[1] + ", " + a[2] + "), told ahead of STATE", x,
                    () -> x.reach(a[0], a[1], a[2]), OUTSIDE);
            }
        }
        check.due("reach(-200, 0, 0)", all[0].reach(-200, 0, 0), 0);
        check.due("reach(-199, 0, 0)", all[0].reach(-199, 0, 0), NONE);
        check.due("reach(200, 1, 0)", all[0].reach(200, 1, 0), 100);
        check.due("reach(200, 1, 1)", all[0].reach(200, 1, 1), 1);
    }

    private void reachState() {
        check.sentence("Promise 16", "STATE: STATIONS do not FIT, or all MISSED (or there are none).");
        ShadowSpans[] refused = {new ShadowSpans(), Check.with("0:x"), unfit(),
            Check.with("0:x", "1:x", "2:x", "3:x", "4:x", "5:x", "6:x", "7:x")};
        int[] heights = {-200, 0, 5, 200};
        for (ShadowSpans x : refused) {
            for (int h : heights) {
                check.refused("reach(" + h + ", 0, 0)", x, () -> x.reach(h, 0, 0), STATE);
                check.refused("reach(" + h + ", 1, 1)", x, () -> x.reach(h, 1, 1), STATE);
            }
        }
        Check.report(refused[1], "5:0,9");
        check.due("reach(5, 1, 0), when one did not MISS", refused[1].reach(5, 1, 0), 90);
        refused[1].drop(1);
        check.due("reach(5, 1, 0), when it went", refused[1].reach(5, 1, 0), STATE);
        refused[2].drop(1);
        check.due("reach(0, 1, 0), when they FIT", refused[2].reach(0, 1, 0), 100);
    }

    private void lastsCall() {
        check.sentence("Promise 17", "LASTS at h: what = 0 for sure, 1 at most (NONE).");
        ShadowSpans x = Check.with("0:0,10~1", "3:1,10~1");
        int[][] due = {{-1, 0, 14}, {0, 8, 12}, {1, 7, NONE}, {2, 7, NONE}, {3, 7, 11}, {4, 0, 12}};
        for (int[] d : due) {
            check.due("lasts(" + d[0] + ", 0)", x.lasts(d[0], 0), d[1]);
            check.due("lasts(" + d[0] + ", 1)", x.lasts(d[0], 1), d[2]);
        }
    }

    private void lastsOutside() {
        check.sentence("Promise 17", "OUTSIDE: h, what;");
        ShadowSpans[] all = {Check.with("-200:0,10", "200:0,10"), new ShadowSpans(), Check.with("0:x"), unfit()};
        int[][] amiss = {{-201, 0}, {201, 1}, {FAR[0], 0}, {FAR[1], 1}, {0, -1}, {0, 2}, {0, FAR[0]}, {0, FAR[1]}, {-201, 2}};
        for (ShadowSpans x : all) {
            for (int[] a : amiss) {
                check.refused("lasts(" + a[0] + ", " + a[1] + "), told ahead of STATE", x, () -> x.lasts(a[0], a[1]),
                    OUTSIDE);
            }
        }
        check.due("lasts(-200, 0)", all[0].lasts(-200, 0), 10);
        check.due("lasts(200, 1)", all[0].lasts(200, 1), 10);
        check.due("lasts(199, 1)", all[0].lasts(199, 1), NONE);
    }

    private void lastsState() {
        check.sentence("Promise 17", "STATE: as reach().");
        ShadowSpans[] refused = {new ShadowSpans(), Check.with("0:x"), unfit()};
        int[] heights = {-200, 0, 5, 200};
        for (ShadowSpans x : refused) {
            for (int h : heights) {
                check.refused("lasts(" + h + ", 0)", x, () -> x.lasts(h, 0), STATE);
                check.refused("lasts(" + h + ", 1)", x, () -> x.lasts(h, 1), STATE);
            }
        }
        Check.report(refused[1], "5:0,9");
        check.due("lasts(5, 0), when one did not MISS", refused[1].lasts(5, 0), 9);
        refused[2].drop(1);
        check.due("lasts(5, 0), when they FIT", refused[2].lasts(5, 0), 10);
    }
}
