/** The terms of the kernel, and promises 13 to 15, kernel, corner, holds: each boundary, and a step to each side. */
final class KernelBounds {
    private static final int UNKNOWN = ShadowSpans.UNKNOWN;
    private static final int OUTSIDE = ShadowSpans.OUTSIDE;
    private static final int STATE = ShadowSpans.STATE;
    private static final int OUT = ShadowSpans.OUT;
    private static final int[] FAR = {Integer.MIN_VALUE, Integer.MAX_VALUE};

    private final Check check;

    KernelBounds(Check check) {
        this.check = check;
    }

    void all() {
        points();
        cornersBetween();
        firstCorner();
        leftTurns();
        area();
        longest();
        wide();
        wideOfFew();
        holdsFromTo();
        holdsOut();
        fractions();
        kernelCall();
        kernelOutside();
        kernelState();
        cornerCall();
        cornerOutside();
        cornerState();
        cornerUnknown();
        holdsCall();
        holdsOutside();
        holdsState();
    }

    private static ShadowSpans with(int speed, String... reports) {
        ShadowSpans x = Check.with(reports);
        x.speed(speed);
        return x;
    }

    private static ShadowSpans unfit() {
        return Check.with("0:0,10", "5:x", "10:0,10");
    }

    private void corners(ShadowSpans x, int... due) {
        check.due("kernel(0)", x.kernel(0), due.length / 2);
        for (int i = 0; i < due.length; i++) {
            check.due("corner(" + i / 2 + ", " + i % 2 + ")", x.corner(i / 2, i % 2), due[i]);
        }
        check.due("a corner behind the last", x.corner(due.length / 2, 0), UNKNOWN);
    }

    private void holds(ShadowSpans x, int h, int... due) {
        for (int i = 0; i < 4; i++) {
            int number = due.length == 1 ? due[0] : due[i];
            check.due("holds(" + h + ", " + i / 2 + ", " + i % 2 + ")", x.holds(h, i / 2, i % 2), number);
        }
    }

    private void points() {
        check.sentence("Terms", "THE KERNEL (if STATIONS FIT): of each STATION that did not MISS the points (MOST of"
            + " LEFT, HEIGHT) and (LEAST of RIGHT, HEIGHT), and all that lies between any of these, between that and so"
            + " on.");
        corners(new ShadowSpans());
        corners(Check.with("0:x", "9:x"));
        corners(with(10, "7:-3,9", "9:x"), -30, 7, 90, 7);
        corners(with(10, "7:-3,9~1", "5:x"), -20, 7, 80, 7);
        // as narrow as ERROR can make it, and a tick wider
        corners(with(1, "7:-20,21~20"), 0, 7, 1, 7);
        corners(with(1, "7:-20,22~20"), 0, 7, 2, 7);
        corners(with(1, "7:-20,21~19"), -1, 7, 2, 7);
        corners(with(20, "-200:-500,-499", "200:499,500"), -10000, -200, -9980, -200, 10000, 200, 9980, 200);
        // between: a third chord's points within, and what lies between chords is held though no chord is there
        ShadowSpans x = with(1, "0:0,40", "10:6,34~6", "20:0,40");
        corners(x, 0, 0, 40, 0, 40, 20, 0, 20);
        holds(x, 10, 0, 1, 40, 1);
        holds(x, 5, 0, 1, 40, 1);
        ShadowSpans bad = unfit();
        check.due("kernel(0), if they do not FIT", bad.kernel(0), STATE);
        bad.drop(1);
        check.due("kernel(0), when they FIT again", bad.kernel(0), 4);
    }

    private void cornersBetween() {
        check.sentence("Terms", "CORNERS: those of these points that do not lie between others of THE KERNEL,");
        // the third one's left on the edge, a step within, a step out
        corners(with(1, "0:0,100", "10:0,100", "20:0,100"), 0, 0, 100, 0, 100, 20, 0, 20);
        corners(with(1, "0:0,100", "10:0,101~1", "20:0,100"), 0, 0, 100, 0, 100, 20, 0, 20);
        corners(with(1, "0:0,100", "10:-1,100", "20:0,100"), -1, 10, 0, 0, 100, 0, 100, 20, 0, 20);
        // and its right
        corners(with(1, "0:0,100", "10:-1,100~1", "20:0,100"), 0, 0, 100, 0, 100, 20, 0, 20);
        corners(with(1, "0:0,100", "10:0,101", "20:0,100"), 0, 0, 100, 0, 101, 10, 100, 20, 0, 20);
        // on a slanted edge: (1, 1) between (0, 0) and (3, 3); a step lower or higher it is a corner or within
        corners(with(1, "0:0,9", "1:1,9", "3:3,9"), 0, 0, 9, 0, 9, 3, 3, 3);
        corners(with(1, "0:0,9", "1:0,9", "3:3,9"), 0, 0, 9, 0, 9, 3, 3, 3, 0, 1);
        corners(with(1, "0:0,9", "1:1,10~1", "3:3,9"), 0, 0, 9, 0, 9, 3, 3, 3);
        // two on one edge
        corners(with(1, "0:0,9", "1:1,8", "2:2,7", "3:3,6"), 0, 0, 9, 0, 6, 3, 3, 3);
        // all sixteen
        check.due("the most there can be", sixteen().kernel(0), 16);
    }

    /** Left and right lie on a circle of sorts, so that each end is a corner. */
    private static ShadowSpans sixteen() {
        return with(1, "7:-51,51", "-7:-51,51", "5:-75,75", "-5:-75,75", "3:-91,91", "-3:-91,91", "1:-99,99",
            "-1:-99,99");
    }

    private void firstCorner() {
        check.sentence("Terms", "from that of least x on (of several that of least h),");
        // the upper one a step to the right, on the same x, a step to the left
        corners(with(1, "0:5,9", "3:6,9"), 5, 0, 9, 0, 9, 3, 6, 3);
        corners(with(1, "0:5,9", "3:5,9"), 5, 0, 9, 0, 9, 3, 5, 3);
        corners(with(1, "0:5,9", "3:4,9"), 4, 3, 5, 0, 9, 0, 9, 3);
        // the one that came last has the least h, or the first
        corners(with(1, "-5:0,4", "5:0,4"), 0, -5, 4, -5, 4, 5, 0, 5);
        corners(with(1, "5:0,4", "-5:0,4"), 0, -5, 4, -5, 4, 5, 0, 5);
        corners(with(1, "5:0,4", "0:-1,4", "-5:0,4"), -1, 0, 0, -5, 4, -5, 4, 5, 0, 5);
        // three of the least x: the one between is no corner
        corners(with(1, "0:0,4", "-5:0,4", "5:0,4"), 0, -5, 4, -5, 4, 5, 0, 5);
        // all below 0
        corners(with(1, "-1:-9,-8", "1:-9,-7"), -9, -1, -8, -1, -7, 1, -9, 1);
    }

    private void leftTurns() {
        check.sentence("Terms", "so that one turns left at each (x is to the right, h upwards).");
        ShadowSpans[] all = {sixteen(), with(1, "0:0,9", "1:0,9", "3:3,9"), with(20, "-200:-500,-499", "200:499,500"),
            with(10, "0:0,1", "1:0,1"), with(10, "3:9,11", "-4:-1,1", "5:12,13")};
        for (ShadowSpans x : all) {
            int size = x.kernel(0);
            check.due("CORNERS enough for a turn, " + size, size >= 4);
            for (int i = 0; i < size; i++) {
                int j = (i + 1) % size;
                int k = (i + 2) % size;
                long turn = (long) (x.corner(j, 0) - x.corner(i, 0)) * (x.corner(k, 1) - x.corner(j, 1))
                    - (long) (x.corner(j, 1) - x.corner(i, 1)) * (x.corner(k, 0) - x.corner(j, 0));
                check.due("the turn at corner " + j + " is " + turn, turn > 0);
            }
        }
        // along the bottom first, not up the left side
        corners(with(10, "0:0,1", "1:0,1"), 0, 0, 10, 0, 10, 1, 0, 1);
    }

    private void area() {
        check.sentence("Terms", "AREA: twice the area of it.");
        check.due("of nothing", new ShadowSpans().kernel(1), 0);
        check.due("of a miss", Check.with("0:x").kernel(1), 0);
        check.due("of one chord", with(20, "0:-500,500").kernel(1), 0);
        check.due("the least: 1 by 1", with(1, "0:0,1", "1:0,1").kernel(1), 2);
        check.due("half a unit more", with(1, "0:0,1", "1:0,2").kernel(1), 3);
        check.due("aslant, no more", with(1, "0:0,1", "1:7,8").kernel(1), 2);
        check.due("by ERROR, less", with(1, "0:0,9", "1:0,9~1").kernel(1), 16);
        check.due("the greatest", with(20, "-200:-500,500", "200:-500,500").kernel(1), 16000000);
        check.due("a tick less", with(20, "-200:-500,500", "200:-500,499").kernel(1), 16000000 - 20 * 400);
    }

    private void longest() {
        check.sentence("Terms", "LONG: the greatest square of how far two CORNERS are apart (0 without).");
        check.due("of nothing", new ShadowSpans().kernel(2), 0);
        check.due("of a miss", Check.with("0:x").kernel(2), 0);
        check.due("of the shortest chord", with(1, "0:0,1").kernel(2), 1);
        check.due("a tick longer", with(1, "0:0,2").kernel(2), 4);
        check.due("of a square", with(1, "0:0,1", "1:0,1").kernel(2), 2);
        // across to the right and across to the left
        check.due("to the upper right", with(1, "0:0,1", "3:4,6").kernel(2), 36 + 9);
        check.due("to the upper left", with(1, "0:5,6", "3:0,2").kernel(2), 36 + 9);
        check.due("along a chord", with(1, "0:2,4", "3:-9,9", "5:1,4").kernel(2), 18 * 18);
        check.due("the greatest", with(20, "-200:-500,500", "200:-500,500").kernel(2), 400160000);
        check.due("by one way across alone", with(20, "-200:-500,499", "200:-499,500").kernel(2), 400160000);
        check.due("a tick less on both", with(20, "-200:-499,499", "200:-499,499").kernel(2), 19960 * 19960 + 160000);
    }

    private void wide() {
        check.sentence("Terms", "WIDE: the least square of how far two parallel lines are apart between which it lies,"
            + " rounded down");
        // edges of 7 up and 7 aslant: half of the square of how wide it is, 1/2, 4/2, 9/2, 16/2
        int[] halves = {0, 2, 4, 8, 12, 18};
        for (int i = 0; i < halves.length; i++) {
            check.due((i + 1) + " by 7 aslant by 7", with(1, "0:0," + (i + 1), "7:7," + (8 + i)).kernel(3), halves[i]);
        }
        // edges of 3 up and 4 aslant are 5 long: 9/25 of the square, 5.76, 9, and then no more than 3 up
        check.due("4 by 3 aslant by 4", with(1, "0:0,4", "3:4,8").kernel(3), 5);
        check.due("5 by 3 aslant by 4", with(1, "0:0,5", "3:4,9").kernel(3), 9);
        check.due("6 by 3 aslant by 4", with(1, "0:0,6", "3:4,10").kernel(3), 9);
        check.due("4 by 3 aslant by -4", with(1, "0:0,4", "3:-4,0").kernel(3), 5);
        // one edge alone gives the least, whichever corner it begins at: 144/25 along it, 144/18 along the other, 9
        for (String[] turned : Turned.all("0:4,7", "3:0,4")) {
            check.due(String.join(" ", turned), with(1, turned).kernel(3), 5);
        }
        // as high as wide, and a step to each side
        check.due("10 by 9", with(1, "0:0,10", "9:0,10").kernel(3), 81);
        check.due("10 by 10", with(1, "0:0,10", "10:0,10").kernel(3), 100);
        check.due("10 by 11", with(1, "0:0,10", "11:0,10").kernel(3), 100);
        check.due("the greatest", with(20, "-200:-500,500", "200:-500,500").kernel(3), 160000);
        check.due("a step less high", with(20, "-200:-500,500", "199:-500,500").kernel(3), 159201);
        check.due("less than 1", with(20, "-200:-500,-499", "200:499,500").kernel(3), 0);
        check.due("1", with(20, "0:-500,500", "1:-500,500").kernel(3), 1);
    }

    private void wideOfFew() {
        check.sentence("Terms", "(0, if it has fewer than three CORNERS).");
        check.due("of nothing", new ShadowSpans().kernel(3), 0);
        check.due("of a miss", Check.with("0:x").kernel(3), 0);
        check.due("CORNERS of one chord", with(20, "0:-500,500").kernel(0), 2);
        check.due("of one chord", with(20, "0:-500,500").kernel(3), 0);
        check.due("of the shortest chord", with(1, "0:0,1").kernel(3), 0);
        check.due("CORNERS of two chords", with(1, "0:0,2", "2:0,2").kernel(0), 4);
        check.due("of two chords", with(1, "0:0,2", "2:0,2").kernel(3), 4);
        ShadowSpans x = with(1, "0:0,2", "2:0,2");
        x.drop(1);
        check.due("when one of two went", x.kernel(3), 0);
    }

    private void holdsFromTo() {
        check.sentence("Terms", "HOLDS at h (-200 to 200): from the least x of it there to the greatest, as fractions;");
        ShadowSpans x = with(20, "-200:-500,500", "200:-300,100");
        holds(x, -200, -10000, 1, 10000, 1);
        holds(x, -199, -9990, 1, 9980, 1);
        holds(x, 0, -8000, 1, 6000, 1);
        holds(x, 199, -6010, 1, 2020, 1);
        holds(x, 200, -6000, 1, 2000, 1);
        // the chord's own ends, a step above and below where another chord is the farther one
        ShadowSpans y = with(1, "0:0,10", "6:-6,20", "9:0,10");
        holds(y, 5, -5, 1, 55, 3);
        holds(y, 6, -6, 1, 20, 1);
        holds(y, 7, -4, 1, 50, 3);
        // whichever came first: the one above, the one below
        ShadowSpans above = with(1, "6:4,14", "0:-2,5");
        holds(above, 1, -1, 1, 13, 2);
        holds(above, 5, 3, 1, 25, 2);
        ShadowSpans below = with(1, "0:-2,5", "6:4,14");
        holds(below, 1, -1, 1, 13, 2);
        holds(below, 5, 3, 1, 25, 2);
        // the left by two chords, the right by two others
        ShadowSpans sides = with(1, "0:0,9", "3:-7,12~3", "5:0,14");
        holds(sides, 1, -4, 3, 10, 1);
        holds(sides, 2, -8, 3, 11, 1);
        holds(sides, 4, -2, 1, 13, 1);
        // its own innermost ends lie within
        ShadowSpans z = with(1, "0:0,100", "10:8,92~8", "20:0,100");
        holds(z, 9, 0, 1, 100, 1);
        holds(z, 10, 0, 1, 100, 1);
        holds(z, 11, 0, 1, 100, 1);
    }

    private void holdsOut() {
        check.sentence("Terms", "OUT, if it has no point there.");
        ShadowSpans x = with(1, "3:0,10", "8:x");
        holds(x, 2, OUT);
        holds(x, 3, 0, 1, 10, 1);
        holds(x, 4, OUT);
        holds(x, 8, OUT);
        holds(x, -200, OUT);
        holds(x, 200, OUT);
        ShadowSpans y = with(1, "-199:0,10", "199:0,10");
        holds(y, -200, OUT);
        holds(y, -199, 0, 1, 10, 1);
        holds(y, -198, 0, 1, 10, 1);
        holds(y, 198, 0, 1, 10, 1);
        holds(y, 199, 0, 1, 10, 1);
        holds(y, 200, OUT);
        holds(new ShadowSpans(), 0, OUT);
        holds(Check.with("0:x"), 0, OUT);
    }

    private void fractions() {
        check.sentence("Terms", "Fractions are told in lowest terms, what is below being above 0 (0 is 0 by 1).");
        // from -2 to 4 in 6 steps on the left: -2, -1, 0 ..; from 5 to 14 on the right: 5, 13/2, 8 ..
        ShadowSpans x = with(1, "0:-2,5", "6:4,14");
        holds(x, 0, -2, 1, 5, 1);
        holds(x, 1, -1, 1, 13, 2);
        holds(x, 2, 0, 1, 8, 1);
        holds(x, 3, 1, 1, 19, 2);
        // by quarters and halves around 0, on both sides
        ShadowSpans y = with(1, "0:-1,4", "8:3,8");
        int[][] left = {{-1, 1}, {-1, 2}, {0, 1}, {1, 2}, {1, 1}, {3, 2}, {2, 1}, {5, 2}, {3, 1}};
        for (int h = 0; h <= 8; h++) {
            int top = 8 + h;
            holds(y, h, left[h][0], left[h][1], h % 2 == 0 ? top / 2 : top, h % 2 == 0 ? 1 : 2);
        }
        ShadowSpans z = with(1, "0:-9,-1", "12:-9,0");
        int[][] right = {{-1, 1}, {-11, 12}, {-5, 6}, {-3, 4}, {-2, 3}, {-7, 12}, {-1, 2}, {-5, 12}, {-1, 3}, {-1, 4},
            {-1, 6}, {-1, 12}, {0, 1}};
        for (int h = 0; h <= 12; h++) {
            holds(z, h, -9, 1, right[h][0], right[h][1]);
        }
        // REACH: from (-1, 0) through (0, 3) and on
        ShadowSpans w = with(1, "0:-1,30", "3:0,30");
        int[][] reach = {{1, 3}, {2, 3}, {1, 1}, {4, 3}};
        for (int i = 0; i < reach.length; i++) {
            check.due("reach(" + (4 + i) + ", 0, 0)", w.reach(4 + i, 0, 0), reach[i][0]);
            check.due("reach(" + (4 + i) + ", 0, 1)", w.reach(4 + i, 0, 1), reach[i][1]);
            check.due("reach(" + (-1 - i) + ", 0, 0)", w.reach(-1 - i, 0, 0), i == 2 ? -2 : -4 - i);
            check.due("reach(" + (-1 - i) + ", 0, 1)", w.reach(-1 - i, 0, 1), i == 2 ? 1 : 3);
        }
        check.due("reach(3, 0, 0)", w.reach(3, 0, 0), 0);
        check.due("reach(3, 0, 1)", w.reach(3, 0, 1), 1);
    }

    private void kernelCall() {
        check.sentence("Promise 13", "What = 0 how many CORNERS THE KERNEL has, 1 AREA, 2 LONG, 3 WIDE.");
        ShadowSpans x = with(1, "0:0,4", "3:4,8");
        int[] due = {4, 24, 73, 5};
        for (int what = 0; what < due.length; what++) {
            check.due("kernel(" + what + ")", x.kernel(what), due[what]);
        }
        ShadowSpans one = with(1, "0:0,4");
        int[] dueOfOne = {2, 0, 16, 0};
        for (int what = 0; what < due.length; what++) {
            check.due("kernel(" + what + ") of one chord", one.kernel(what), dueOfOne[what]);
            check.due("kernel(" + what + ") of nothing", new ShadowSpans().kernel(what), 0);
            check.due("kernel(" + what + ") of a miss", Check.with("0:x").kernel(what), 0);
        }
    }

    private void kernelOutside() {
        check.sentence("Promise 13", "OUTSIDE: what;");
        ShadowSpans x = with(1, "0:0,4", "3:4,8");
        ShadowSpans bad = unfit();
        int[] outside = {-1, 4, -2, 5, FAR[0], FAR[1]};
        for (int what : outside) {
            check.refused("kernel(" + what + ")", x, () -> x.kernel(what), OUTSIDE);
            check.refused("kernel(" + what + "), OUTSIDE told ahead of STATE", bad, () -> bad.kernel(what), OUTSIDE);
        }
        check.due("kernel(0)", x.kernel(0), 4);
        check.due("kernel(3)", x.kernel(3), 5);
    }

    private void kernelState() {
        check.sentence("Promise 13", "STATE: STATIONS do not FIT.");
        ShadowSpans bad = unfit();
        for (int what = 0; what <= 3; what++) {
            int asked = what;
            check.refused("kernel(" + what + ")", bad, () -> bad.kernel(asked), STATE);
        }
        ShadowSpans near = with(1, "0:0,100", "10:12,100~2", "20:20,100");
        check.due("kernel(0), when they just FIT", near.kernel(0), 4);
        near.error(1, 1);
        check.refused("kernel(0), by one less of ERROR", near, () -> near.kernel(0), STATE);
        near.error(1, 3);
        check.due("kernel(0), by one more", near.kernel(0), 4);
    }

    private void cornerCall() {
        check.sentence("Promise 14", "A CORNER (from 0): what = 0 its x, 1 its h.");
        corners(with(1, "0:0,4", "3:4,8"), 0, 0, 4, 0, 8, 3, 4, 3);
        corners(sixteen(), -99, -1, -91, -3, -75, -5, -51, -7, 51, -7, 75, -5, 91, -3, 99, -1,
            99, 1, 91, 3, 75, 5, 51, 7, -51, 7, -75, 5, -91, 3, -99, 1);
    }

    private void cornerOutside() {
        check.sentence("Promise 14", "OUTSIDE: what;");
        ShadowSpans x = with(1, "0:0,4", "3:4,8");
        ShadowSpans bad = unfit();
        int[] outside = {-1, 2, -2, 3, FAR[0], FAR[1]};
        int[] corners = {-1, 0, 3, 4};
        for (int what : outside) {
            for (int corner : corners) {
                check.refused("corner(" + corner + ", " + what + ")", x, () -> x.corner(corner, what), OUTSIDE);
                check.refused("corner(" + corner + ", " + what + "), OUTSIDE told ahead of STATE", bad,
                    () -> bad.corner(corner, what), OUTSIDE);
            }
        }
        check.due("corner(3, 0)", x.corner(3, 0), 4);
        check.due("corner(3, 1)", x.corner(3, 1), 3);
    }

    private void cornerState() {
        check.sentence("Promise 14", "STATE: STATIONS do not FIT;");
        ShadowSpans still = unfit();
        int[] any = {-1, 0, 1, 3, 4, 16, FAR[0], FAR[1]};
        for (int corner : any) {
            check.refused("corner(" + corner + ", 0), STATE told ahead of UNKNOWN", still, () -> still.corner(corner, 0),
                STATE);
            check.refused("corner(" + corner + ", 1), STATE told ahead of UNKNOWN", still, () -> still.corner(corner, 1),
                STATE);
        }
        still.drop(1);
        check.due("corner(3, 0), when they FIT", still.corner(3, 0), 0);
        check.due("corner(4, 0), when they FIT", still.corner(4, 0), UNKNOWN);
    }

    private void cornerUnknown() {
        check.sentence("Promise 14", "UNKNOWN: corner.");
        ShadowSpans[] all = {new ShadowSpans(), Check.with("0:x"), with(1, "0:0,4"), with(1, "0:0,4", "3:4,8"),
            with(1, "0:0,100", "10:-1,100", "20:0,100"), sixteen()};
        int[] sizes = {0, 0, 2, 4, 5, 16};
        for (int i = 0; i < all.length; i++) {
            ShadowSpans x = all[i];
            int[] unknown = {-1, sizes[i], sizes[i] + 1, FAR[0], FAR[1]};
            for (int corner : unknown) {
                check.refused("corner(" + corner + ", 0) of " + sizes[i], x, () -> x.corner(corner, 0), UNKNOWN);
                check.refused("corner(" + corner + ", 1) of " + sizes[i], x, () -> x.corner(corner, 1), UNKNOWN);
            }
        }
        check.due("the first of 2", all[2].corner(0, 0), 0);
        check.due("the last of 2", all[2].corner(1, 0), 4);
        check.due("the first of 5", all[4].corner(0, 0), -1);
        check.due("the last of 5", all[4].corner(4, 1), 20);
        check.due("the first of 16", all[5].corner(0, 0), -99);
        check.due("the last of 16", all[5].corner(15, 1), 1);
    }

    private void holdsCall() {
        check.sentence("Promise 15", "HOLDS at h: side 0 the least x, 1 the greatest; part 0 above, 1 below; OUT.");
        ShadowSpans x = with(1, "0:-1,1", "3:0,2");
        holds(x, -1, OUT);
        holds(x, 0, -1, 1, 1, 1);
        holds(x, 1, -2, 3, 4, 3);
        holds(x, 2, -1, 3, 5, 3);
        holds(x, 3, 0, 1, 2, 1);
        holds(x, 4, OUT);
    }

    private void holdsOutside() {
        check.sentence("Promise 15", "OUTSIDE: h, side, part;");
        ShadowSpans x = with(1, "-200:0,4", "200:4,8");
        ShadowSpans bad = unfit();
        int[][] amiss = {{-201, 0, 0}, {201, 0, 0}, {FAR[0], 0, 0}, {FAR[1], 1, 1}, {0, -1, 0}, {0, 2, 0}, {0, FAR[0], 1},
            {0, FAR[1], 1}, {0, 0, -1}, {0, 0, 2}, {0, 1, FAR[0]}, {0, 1, FAR[1]}, {-201, 2, 2}};
        for (int[] a : amiss) {
            String call = "holds(" + a[0] + ", " + a[1] + ", " + a[2] + ")";
            check.refused(call, x, () -> x.holds(a[0], a[1], a[2]), OUTSIDE);
            check.refused(call + ", OUTSIDE told ahead of STATE", bad, () -> bad.holds(a[0], a[1], a[2]), OUTSIDE);
        }
        holds(x, -200, 0, 1, 4, 1);
        holds(x, -199, 1, 100, 401, 100);
        holds(x, 199, 399, 100, 799, 100);
        holds(x, 200, 4, 1, 8, 1);
    }

    private void holdsState() {
        check.sentence("Promise 15", "STATE: STATIONS do not FIT.");
        ShadowSpans bad = unfit();
        int[] heights = {-200, 0, 5, 10, 200};
        for (int h : heights) {
            check.refused("holds(" + h + ", 0, 0)", bad, () -> bad.holds(h, 0, 0), STATE);
            check.refused("holds(" + h + ", 1, 1)", bad, () -> bad.holds(h, 1, 1), STATE);
        }
        bad.drop(1);
        holds(bad, 5, 0, 1, 100, 1);
        holds(bad, 11, OUT);
    }
}
