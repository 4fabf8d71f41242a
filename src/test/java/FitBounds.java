import java.util.ArrayList;
import java.util.Arrays;
import java.util.List;

/** The terms of bodies that fit, and promises 9 to 12, station, at, fits, wrong: each boundary, and a step to each side. */
final class FitBounds {
    private static final int NONE = ShadowSpans.NONE;
    private static final int UNKNOWN = ShadowSpans.UNKNOWN;
    private static final int OUTSIDE = ShadowSpans.OUTSIDE;

    private final Check check;

    FitBounds(Check check) {
        this.check = check;
    }

    void all() {
        leftAndRight();
        dents();
        boundsWithThem();
        missed();
        allMissed();
        fewest();
        leastSum();
        station();
        stationUnknown();
        stationOutside();
        at();
        atOutside();
        fitsCall();
        wrongCall();
    }

    /** Whether these fit, from each side and at the least and the greatest SPEED. */
    private void fits(int due, String... reports) {
        for (String[] turned : Turned.all(reports)) {
            ShadowSpans x = Check.with(turned);
            String name = String.join(" ", turned);
            check.due("fits() of " + name, x.fits(), due);
            x.speed(1);
            check.due("fits() at SPEED 1 of " + name, x.fits(), due);
            x.speed(20);
            check.due("fits() at SPEED 20 of " + name, x.fits(), due);
        }
    }

    private void wrong(int due, String... reports) {
        for (String[] turned : Turned.all(reports)) {
            check.due("wrong() of " + String.join(" ", turned), Check.with(turned).wrong(), due);
        }
    }

    private void leftAndRight() {
        check.sentence("Terms", "Of a STATION that did not MISS: LEFT lies from SPEED * (GONE - ERROR) to"
            + " SPEED * (GONE + ERROR), RIGHT from SPEED * (BACK - ERROR) to SPEED * (BACK + ERROR):"
            + " LEAST and MOST of both.");
        int[] speeds = {1, 2, 10, 19, 20};
        int[] errors = {0, 1, 19, 20};
        int[][] ends = {{-500, 500}, {-500, -459}, {459, 500}, {-1, 40}, {0, 41}, {-41, 0}, {-21, 20}};
        for (int speed : speeds) {
            for (int[] end : ends) {
                ShadowSpans x = Check.with("7:" + end[0] + "," + end[1]);
                x.speed(speed);
                for (int error : errors) {
                    x.error(0, error);
                    int[] due = {speed * (end[0] - error), speed * (end[0] + error), speed * (end[1] - error),
                        speed * (end[1] + error)};
                    for (int i = 0; i < due.length; i++) {
                        check.due("station(0, " + (5 + i) + ") of " + end[0] + "," + end[1] + "~" + error + " at SPEED "
                            + speed, x.station(0, 5 + i), due[i]);
                    }
                }
            }
        }
    }

    private void dents() {
        check.sentence("Terms", "A BODY is a set of points (x, h) without dents: with two points it has all of the"
            + " straight line between them.");
        // on the line, a tick out, a tick in
        fits(1, "0:0,100", "10:10,100", "20:20,100");
        fits(1, "0:0,100", "10:9,100", "20:20,100");
        fits(0, "0:0,100", "10:11,100", "20:20,100");
        // the line lies between two ticks: 10 / 3 and 20 / 3
        fits(1, "0:0,100", "1:3,100", "3:10,100");
        fits(0, "0:0,100", "1:4,100", "3:10,100");
        fits(1, "0:0,100", "2:6,100", "3:10,100");
        fits(0, "0:0,100", "2:7,100", "3:10,100");
        // as far apart as heights can be, and as near
        fits(1, "-200:-500,500", "-199:-498,500", "200:300,500");
        fits(1, "-200:-500,500", "-199:-499,500", "200:300,500");
        fits(0, "-200:-500,500", "-199:-497,500", "200:300,500");
        fits(1, "-1:-500,500", "0:-1,500", "1:498,500");
        fits(0, "-1:-500,500", "0:0,500", "1:498,500");
        // two have no third between them
        fits(1, "0:-500,-499", "1:499,500");
        // of four, the one on the line between those that are not its neighbours
        fits(1, "0:0,100", "10:5,100", "20:10,100", "30:15,100");
        fits(0, "0:0,100", "10:5,100", "20:11,100", "30:15,100");
        fits(1, "0:0,100", "10:4,100", "20:9,100", "30:15,100");
    }

    private void boundsWithThem() {
        check.sentence("Terms", "It FITS some STATIONS, if at the HEIGHT of each of them that did not MISS its points go"
            + " just from some x within LEFT to some x within RIGHT (bounds with them),");
        // 12 lies 2 ticks within the line: ERROR in the middle lets the side out ..
        fits(0, "0:0,100", "10:12,100~1", "20:20,100");
        fits(1, "0:0,100", "10:12,100~2", "20:20,100");
        fits(1, "0:0,100", "10:12,100~3", "20:20,100");
        // .. and at each end lets the line in, by half of it
        fits(0, "0:0,100~3", "10:12,100", "20:20,100");
        fits(1, "0:0,100~4", "10:12,100", "20:20,100");
        fits(1, "0:0,100~5", "10:12,100", "20:20,100");
        fits(0, "0:0,100", "10:12,100", "20:20,100~3");
        fits(1, "0:0,100", "10:12,100", "20:20,100~4");
        fits(1, "0:0,100", "10:12,100", "20:20,100~5");
        fits(0, "0:0,100~1", "10:12,100~1", "20:20,100");
        fits(1, "0:0,100~2", "10:12,100~1", "20:20,100");
        fits(1, "0:0,100~1", "10:12,100~1", "20:20,100~1");
        // the greatest ERROR
        fits(1, "0:0,200", "10:30,200~20", "20:20,200");
        fits(0, "0:0,200", "10:31,200~20", "20:20,200");
        fits(1, "0:0,200~20", "10:50,200~20", "20:20,200~20");
        fits(0, "0:0,200~20", "10:51,200~20", "20:20,200~20");
        // each side by itself: the left fits by the bound, the right does not by a tick
        fits(1, "0:0,200~4", "10:12,188", "20:20,180");
        fits(0, "0:0,200~4", "10:12,187", "20:20,180");
        fits(1, "0:0,200~4", "10:12,189", "20:20,180");
    }

    private void missed() {
        check.sentence("Terms", "and at the HEIGHT of each that MISSED it has no point.");
        fits(1, "0:0,10", "-1:x");
        fits(1, "0:0,10", "1:x", "-1:x");
        fits(1, "0:0,10", "1:0,10", "2:x");
        fits(0, "0:0,10", "2:0,10", "1:x");
        fits(1, "0:0,10", "2:0,10", "-1:x", "3:x");
        fits(0, "0:0,10", "3:0,10", "1:x");
        fits(0, "0:0,10", "3:0,10", "2:x");
        fits(0, "-200:0,10", "200:0,10", "-199:x");
        fits(0, "-200:0,10", "200:0,10", "0:x");
        fits(1, "-199:0,10", "199:0,10", "-200:x", "200:x");
        // far to the side is no way past one that MISSED
        fits(0, "0:-500,-499", "2:499,500", "1:x");
        fits(0, "0:-500,-441~20", "2:-500,-441~20", "1:x");
    }

    private void allMissed() {
        check.sentence("Terms", "STATIONS FIT, if there is a BODY that FITS all of them (if all MISSED, or there are"
            + " none, they do).");
        fits(1);
        String[] misses = new String[8];
        for (int i = 0; i < 8; i++) {
            misses[i] = 10 * i + ":x";
            fits(1, Arrays.copyOf(misses, i + 1));
        }
        // all but one, wherever it is; and all but two
        for (int i = 0; i < 8; i++) {
            String[] one = misses.clone();
            one[i] = 10 * i + ":-5,5~1";
            fits(1, one);
            for (int j = 0; j < i; j++) {
                String[] two = one.clone();
                two[j] = 10 * j + ":-5,5~1";
                fits(i - j == 1 ? 1 : 0, two);
            }
        }
    }

    private void fewest() {
        check.sentence("Terms", "WRONG: the fewest STATIONS without which the others FIT;");
        wrong(0);
        wrong(0, "0:x");
        wrong(0, "0:0,100", "10:10,100", "20:20,100");
        wrong(1, "0:0,100", "10:11,100", "20:20,100");
        // one alone, of the greatest number, ahead of two of the least
        wrong(16, "0:0,9", "10:0,9", "20:0,9", "30:0,9", "15:x");
        wrong(1, "0:0,9", "20:0,9", "30:0,9", "15:x");
        // each three clash, so that just two may stay
        String[] bulge = {"1:49,99", "2:46,99", "3:41,99", "4:34,99", "5:25,99", "6:14,99", "7:1,99", "8:-14,99"};
        for (int size = 2; size <= 8; size++) {
            wrong((1 << size - 2) - 1, Arrays.copyOf(bulge, size));
        }
        byItself("0:0,9", "10:0,9", "5:x", "15:x", "20:0,9");
        byItself("40:20,80", "10:20,80", "0:10,80", "50:10,80", "20:x");
        byItself("10:x", "30:10,80", "50:20,100", "0:20,80", "40:20,80", "60:10,100");
        byItself("50:10,90", "0:30,80", "30:30,90", "10:20,80~3", "40:x", "60:0,80", "20:15,70~9");
        byItself("0:x", "30:20,100", "20:20,80~1", "40:30,80~4", "10:10,100", "50:20,90", "60:x", "-10:0,99");
    }

    /** All sets that can go, each asked for by fits() of a new object that never had them. */
    private void byItself(String... reports) {
        int best = (1 << reports.length) - 1;
        for (int without = best; without >= 0; without--) {
            List<String> rest = new ArrayList<>();
            for (int i = 0; i < reports.length; i++) {
                if ((without >> i & 1) == 0) {
                    rest.add(reports[i]);
                }
            }
            boolean fewer = Integer.bitCount(without) <= Integer.bitCount(best);
            if (fewer && Check.with(rest.toArray(new String[0])).fits() == 1) {
                best = without;
            }
        }
        check.due("wrong() of " + String.join(" ", reports), Check.with(reports).wrong(), best);
    }

    private void leastSum() {
        check.sentence("Terms", "of several sets that of the least sum of 2 to the power of their numbers.");
        // the miss or the chord above it: whichever has the lesser number
        String[] others = {"0:0,9", "10:0,9", "-10:0,9", "-20:0,9", "-30:0,9", "-40:0,9"};
        for (int miss = 0; miss < 8; miss++) {
            for (int chord = 0; chord < 8; chord++) {
                if (miss != chord) {
                    String[] all = new String[8];
                    all[miss] = "15:x";
                    all[chord] = "20:0,9";
                    for (int i = 0, next = 0; i < 8; i++) {
                        all[i] = all[i] == null ? others[next++] : all[i];
                    }
                    wrong(1 << Math.min(miss, chord), all);
                }
            }
        }
        // only 1 and 2 together (6) or 0 and 3 together (9) would do: 6 is less, though 0 is the least number
        wrong(6, "40:20,80", "10:20,80", "0:10,80", "50:10,80", "20:x");
        wrong(9, "10:20,80", "40:20,80", "20:x", "0:10,80", "50:10,80");
        wrong(12, "20:x", "40:20,80", "10:20,80", "0:10,80", "50:10,80");
        wrong(3, "10:20,80", "0:10,80", "40:20,80", "50:10,80", "20:x");
    }

    private void station() {
        check.sentence("Promise 9", "Of a STATION: what = 0 HEIGHT, 1 whether it MISSED (1, 0), 2 GONE, 3 BACK, 4 ERROR,"
            + " 5 and 6 LEAST and MOST of LEFT, 7 and 8 of RIGHT (2 to 8: NONE, if it MISSED).");
        ShadowSpans x = Check.with("-200:-500,500~20", "200:x", "0:-1,0", "-7:-12,30~4", "8:x");
        x.speed(3);
        int[][] due = {
            {-200, 0, -500, 500, 20, -1560, -1440, 1440, 1560},
            {200, 1, NONE, NONE, NONE, NONE, NONE, NONE, NONE},
            {0, 0, -1, 0, 0, -3, -3, 0, 0},
            {-7, 0, -12, 30, 4, -48, -24, 78, 102},
            {8, 1, NONE, NONE, NONE, NONE, NONE, NONE, NONE}};
        for (int i = 0; i < due.length; i++) {
            for (int what = 0; what <= 8; what++) {
                check.due("station(" + i + ", " + what + ")", x.station(i, what), due[i][what]);
            }
        }
    }

    private void stationUnknown() {
        check.sentence("Promise 9", "UNKNOWN: station;");
        int[] whats = {-1, 0, 1, 8, 9};
        for (int size = 0; size <= 8; size++) {
            ShadowSpans x = new ShadowSpans();
            for (int i = 0; i < size; i++) {
                Check.report(x, i + ":0,9");
            }
            int[] unknown = {-1, size, size + 1, Integer.MIN_VALUE, Integer.MAX_VALUE};
            for (int station : unknown) {
                for (int what : whats) {
                    check.refused("station(" + station + ", " + what + ") of " + size, x, () -> x.station(station, what),
                        UNKNOWN);
                }
            }
            if (size > 0) {
                check.due("station(0, 0) of " + size, x.station(0, 0), 0);
                check.due("the last of " + size, x.station(size - 1, 0), size - 1);
            }
        }
    }

    private void stationOutside() {
        check.sentence("Promise 9", "OUTSIDE: what.");
        ShadowSpans x = Check.with("5:0,9~2", "6:x");
        int[] outside = {-1, 9, -2, 10, Integer.MIN_VALUE, Integer.MAX_VALUE};
        for (int what : outside) {
            check.refused("station(0, " + what + ")", x, () -> x.station(0, what), OUTSIDE);
            check.refused("station(1, " + what + ") of a miss", x, () -> x.station(1, what), OUTSIDE);
        }
        check.due("station(0, 0)", x.station(0, 0), 5);
        check.due("station(0, 8)", x.station(0, 8), 110);
        check.due("station(1, 0)", x.station(1, 0), 6);
        check.due("station(1, 8)", x.station(1, 8), NONE);
    }

    private void at() {
        check.sentence("Promise 10", "The number of the STATION of a HEIGHT; NONE: there is none.");
        ShadowSpans x = Check.with("200:x", "-200:1,2", "0:3,4", "10:x", "12:x");
        int[][] due = {{200, 0}, {199, NONE}, {-200, 1}, {-199, NONE}, {0, 2}, {1, NONE}, {-1, NONE}, {9, NONE}, {10, 3},
            {11, NONE}, {12, 4}, {13, NONE}, {-10, NONE}};
        for (int[] pair : due) {
            check.due("at(" + pair[0] + ")", x.at(pair[0]), pair[1]);
        }
        ShadowSpans empty = new ShadowSpans();
        check.due("at(0) of nothing", empty.at(0), NONE);
        check.due("at(-200) of nothing", empty.at(-200), NONE);
        check.due("at(200) of nothing", empty.at(200), NONE);
        ShadowSpans full = Check.with("0:x", "1:x", "2:x", "3:x", "4:x", "5:x", "6:x", "7:x");
        check.due("at(7) of eight", full.at(7), 7);
        check.due("at(8) of eight", full.at(8), NONE);
    }

    private void atOutside() {
        check.sentence("Promise 10", "OUTSIDE: h (-200 to 200).");
        ShadowSpans x = Check.with("200:x", "-200:1,2");
        int[] outside = {-201, 201, -202, 202, Integer.MIN_VALUE, Integer.MAX_VALUE};
        for (int h : outside) {
            check.refused("at(" + h + ")", x, () -> x.at(h), OUTSIDE);
        }
        check.due("at(200)", x.at(200), 0);
        check.due("at(199)", x.at(199), NONE);
        check.due("at(-200)", x.at(-200), 1);
        check.due("at(-199)", x.at(-199), NONE);
    }

    private void fitsCall() {
        check.sentence("Promise 11", "Whether STATIONS FIT (1, 0).");
        ShadowSpans x = Check.with("0:0,100", "10:12,100~2");
        check.due("of two", x.fits(), 1);
        Check.report(x, "20:20,100");
        check.due("of three, just so", x.fits(), 1);
        x.error(1, 1);
        check.due("by one less of ERROR", x.fits(), 0);
        x.error(1, 3);
        check.due("by one more", x.fits(), 1);
        Check.report(x, "9:x");
        check.due("with one that MISSED between", x.fits(), 0);
        x.drop(0);
        check.due("when none is below it", x.fits(), 1);
        Check.report(x, "8:10,99");
        check.due("when one is again", x.fits(), 0);
        x.drop(2);
        check.due("without the one that MISSED", x.fits(), 1);
    }

    private void wrongCall() {
        check.sentence("Promise 12", "WRONG, as bits (0: they FIT).");
        int[] heights = {-30, -20, -10, 10, 20, 30, 40};
        for (int bit = 0; bit < 8; bit++) {
            String[] all = new String[8];
            for (int i = 0, next = 0; i < 8; i++) {
                all[i] = i == bit ? "0:x" : heights[next++] + ":0,9";
            }
            wrong(1 << bit, all);
        }
        ShadowSpans x = Check.with("0:0,100", "10:12,100~2", "20:20,100");
        check.due("just so", x.wrong(), 0);
        x.error(1, 1);
        check.due("by one less of ERROR", x.wrong(), 1);
        x.error(1, 2);
        check.due("by one more", x.wrong(), 0);
        x.error(1, 1);
        Check.report(x, "30:30,100");
        Check.report(x, "-10:-10,100");
        check.due("when others stand by the line", x.wrong(), 2);
        x.drop(0);
        check.due("when those ahead of it went, its bit is another", x.wrong(), 1);
        x.drop(0);
        check.due("without it", x.wrong(), 0);
    }
}
