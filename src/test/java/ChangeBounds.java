/** Promises 6 to 8, drop, error, speed: each boundary, and a step to each side of it. */
final class ChangeBounds {
    private static final int NONE = ShadowSpans.NONE;
    private static final int UNKNOWN = ShadowSpans.UNKNOWN;
    private static final int OUTSIDE = ShadowSpans.OUTSIDE;
    private static final int STATE = ShadowSpans.STATE;

    private final Check check;

    ChangeBounds(Check check) {
        this.check = check;
    }

    void all() {
        drop();
        dropUnknown();
        error();
        errorUnknown();
        errorOutside();
        errorState();
        speed();
    }

    private void drop() {
        check.sentence("Promise 6", "A STATION is gone (those behind it have a number less by 1): how many are left.");
        for (int size = 1; size <= 8; size++) {
            for (int gone = 0; gone < size; gone++) {
                ShadowSpans x = new ShadowSpans();
                for (int i = 0; i < size; i++) {
                    String chord = ":" + -i + "," + (50 * i + 59) + (i < 4 ? "" : "~" + i);
                    Check.report(x, 10 * i + (i % 3 == 1 ? ":x" : chord));
                }
                check.due("drop(" + gone + ") of " + size, x.drop(gone), size - 1);
                for (int i = 0; i < size - 1; i++) {
                    int was = i < gone ? i : i + 1;
                    check.due("HEIGHT of " + i, x.station(i, 0), 10 * was);
                    check.due("MISSED of " + i, x.station(i, 1), was % 3 == 1 ? 1 : 0);
                    check.due("GONE of " + i, x.station(i, 2), was % 3 == 1 ? NONE : -was);
                    check.due("BACK of " + i, x.station(i, 3), was % 3 == 1 ? NONE : 50 * was + 59);
                    check.due("ERROR of " + i, x.station(i, 4), was % 3 == 1 ? NONE : was < 4 ? 0 : was);
                    check.due("at(" + 10 * was + ")", x.at(10 * was), i);
                }
                check.due("at() of the one that went", x.at(10 * gone), NONE);
                check.due("one behind the last", x.station(size - 1, 0), UNKNOWN);
            }
        }
    }

    private void dropUnknown() {
        check.sentence("Promise 6", "UNKNOWN: station.");
        for (int size = 0; size <= 8; size++) {
            ShadowSpans x = new ShadowSpans();
            for (int i = 0; i < size; i++) {
                Check.report(x, i + ":x");
            }
            int[] unknown = {-1, size, size + 1, -2, Integer.MIN_VALUE, Integer.MAX_VALUE};
            for (int station : unknown) {
                check.refused("drop(" + station + ") of " + size, x, () -> x.drop(station), UNKNOWN);
            }
            int last = size - 1;
            if (size > 0) {
                check.due("drop(" + last + ") of " + size, x.drop(last), last);
                check.refused("drop(" + last + ") again", x, () -> x.drop(last), UNKNOWN);
            }
        }
    }

    private void error() {
        check.sentence("Promise 7", "ERROR of a STATION is another one: which it was.");
        ShadowSpans x = Check.with("0:-100,100", "10:-100,100~20", "20:-100,100~5");
        int[][] changes = {{0, 0, 0}, {0, 1, 0}, {0, 20, 1}, {0, 19, 20}, {0, 0, 19}, {1, 0, 20}, {1, 20, 0}, {2, 6, 5},
            {2, 4, 6}, {2, 4, 4}};
        for (int[] c : changes) {
            check.due("error(" + c[0] + ", " + c[1] + ")", x.error(c[0], c[1]), c[2]);
            check.due("station(" + c[0] + ", 4)", x.station(c[0], 4), c[1]);
            check.due("station(" + c[0] + ", 6)", x.station(c[0], 6), 10 * (c[1] - 100));
        }
        check.due("ERROR of the first stays", x.station(0, 4), 0);
        check.due("ERROR of the second stays", x.station(1, 4), 20);
    }

    private void errorUnknown() {
        check.sentence("Promise 7", "UNKNOWN: station;");
        ShadowSpans x = Check.with("0:0,41~3", "10:x", "20:0,40", "30:-5,-4");
        int[] unknown = {-1, 4, 5, 8, Integer.MIN_VALUE, Integer.MAX_VALUE};
        for (int station : unknown) {
            check.refused("error(" + station + ", 0)", x, () -> x.error(station, 0), UNKNOWN);
            check.refused("error(" + station + ", 21), UNKNOWN told first", x, () -> x.error(station, 21), UNKNOWN);
            check.refused("error(" + station + ", -1), UNKNOWN told first", x, () -> x.error(station, -1), UNKNOWN);
        }
        check.due("error(3, 0), the last there is", x.error(3, 0), 0);
        check.due("error(0, 3), the first", x.error(0, 3), 3);
        ShadowSpans none = new ShadowSpans();
        check.refused("error(0, 0) of nothing", none, () -> none.error(0, 0), UNKNOWN);
    }

    private void errorOutside() {
        check.sentence("Promise 7", "OUTSIDE: v (0 to 20);");
        ShadowSpans x = Check.with("0:0,41~3", "10:x", "20:0,40", "30:-5,-4");
        int[] outside = {-1, 21, -2, 22, Integer.MIN_VALUE, Integer.MAX_VALUE};
        for (int v : outside) {
            check.refused("error(0, " + v + ")", x, () -> x.error(0, v), OUTSIDE);
            check.refused("error(1, " + v + ") of a miss, OUTSIDE told first", x, () -> x.error(1, v), OUTSIDE);
            check.refused("error(3, " + v + ") of a short one, OUTSIDE told first", x, () -> x.error(3, v), OUTSIDE);
        }
        check.due("error(0, 0)", x.error(0, 0), 3);
        check.due("error(0, 1)", x.error(0, 1), 0);
        check.due("error(0, 19)", x.error(0, 19), 1);
        check.due("error(0, 20)", x.error(0, 20), 19);
    }

    private void errorState() {
        check.sentence("Promise 7", "STATE: it MISSED, or BACK would not be great enough.");
        ShadowSpans x = Check.with("0:0,41~3", "10:x", "20:0,40", "30:-5,-4", "40:-5,-2", "50:-500,-461~2");
        check.refused("error(1, 0) of a miss", x, () -> x.error(1, 0), STATE);
        check.refused("error(1, 20) of a miss", x, () -> x.error(1, 20), STATE);
        check.refused("error(2, 20): 40 is just 0 and twice 20", x, () -> x.error(2, 20), STATE);
        check.due("error(2, 19)", x.error(2, 19), 0);
        check.due("error(0, 20): 41 is more", x.error(0, 20), 3);
        check.refused("error(3, 1): -4 is less than -5 and 2", x, () -> x.error(3, 1), STATE);
        check.due("error(3, 0)", x.error(3, 0), 0);
        check.due("error(4, 1): -2 is more than -5 and 2", x.error(4, 1), 0);
        check.refused("error(4, 2)", x, () -> x.error(4, 2), STATE);
        check.refused("error(5, 20): -461 is less than -500 and 40", x, () -> x.error(5, 20), STATE);
        check.due("error(5, 19): -461 is more than -500 and 38", x.error(5, 19), 2);
    }

    private void speed() {
        check.sentence("Promise 8", "SPEED is another one: which it was.");
        ShadowSpans x = Check.with("0:-3,10~2");
        int was = 10;
        int[] speeds = {1, 2, 1, 20, 19, 20, 20, 10, 9, 11};
        for (int v : speeds) {
            check.due("speed(" + v + ")", x.speed(v), was);
            check.due("count(3)", x.count(3), v);
            int[] ends = {-5 * v, -v, 8 * v, 12 * v};
            for (int i = 0; i < ends.length; i++) {
                check.due("station(0, " + (5 + i) + ")", x.station(0, 5 + i), ends[i]);
            }
            check.due("kernel(2)", x.kernel(2), 81 * v * v);
            check.due("corner(1, 0)", x.corner(1, 0), 8 * v);
            check.due("reach(0, 0, 0)", x.reach(0, 0, 0), -5 * v);
            was = v;
        }
        check.sentence("Promise 8", "OUTSIDE: v (1 to 20).");
        int[] outside = {0, 21, -1, 22, -10, Integer.MIN_VALUE, Integer.MAX_VALUE};
        for (int v : outside) {
            check.refused("speed(" + v + ")", x, () -> x.speed(v), OUTSIDE);
        }
        check.due("speed(1)", x.speed(1), 11);
        check.due("speed(20)", x.speed(20), 1);
    }
}
