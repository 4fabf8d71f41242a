/** Promises 9 to 12: station, at, fits, wrong. */
public final class StationsTest {
    private static final Check check = new Check();

    public static void main(String[] args) {
        station();
        at();
        fits();
        fitsByError();
        wrong();
        allClash();
        check.end("StationsTest");
    }

    private static void station() {
        ShadowSpans x = Check.with("-7:-12,30~4", "9:x", "200:-500,500~20");
        x.speed(3);
        int none = ShadowSpans.NONE;
        int[][] facts = {
            {-7, 0, -12, 30, 4, -48, -24, 78, 102},
            {9, 1, none, none, none, none, none, none, none},
            {200, 0, -500, 500, 20, -1560, -1440, 1440, 1560},
        };
        for (int i = 0; i < facts.length; i++) {
            for (int what = 0; what <= 8; what++) {
                check.due("station(" + i + ", " + what + ")", x.station(i, what), facts[i][what]);
            }
            check.due("station(" + i + ", -1)", x.station(i, -1), ShadowSpans.OUTSIDE);
            check.due("station(" + i + ", 9)", x.station(i, 9), ShadowSpans.OUTSIDE);
        }
        int[] unknown = {-1, 3, 8, Integer.MIN_VALUE, Integer.MAX_VALUE};
        for (int i : unknown) {
            check.due("station(" + i + ", 0)", x.station(i, 0), ShadowSpans.UNKNOWN);
            check.due("UNKNOWN ahead of OUTSIDE", x.station(i, 9), ShadowSpans.UNKNOWN);
        }
    }

    private static void at() {
        ShadowSpans x = Check.with("200:x", "-200:1,2", "0:3,4");
        check.due("at(200)", x.at(200), 0);
        check.due("at(-200)", x.at(-200), 1);
        check.due("at(0)", x.at(0), 2);
        check.due("at(1)", x.at(1), ShadowSpans.NONE);
        int[] outside = {201, -201, Integer.MIN_VALUE, Integer.MAX_VALUE};
        for (int h : outside) {
            check.due("at(" + h + ")", x.at(h), ShadowSpans.OUTSIDE);
        }
        x.drop(0);
        check.due("at(200) when it is gone", x.at(200), ShadowSpans.NONE);
        check.due("at(0) when one is gone", x.at(0), 1);
    }

    private static void judged(int wrong, String... reports) {
        ShadowSpans x = Check.with(reports);
        String name = String.join(" ", reports);
        check.due("wrong() of " + name, x.wrong(), wrong);
        check.due("fits() of " + name, x.fits(), wrong == 0 ? 1 : 0);
        x.speed(1);
        check.due("wrong() at another SPEED of " + name, x.wrong(), wrong);
    }

    private static void fits() {
        judged(0);
        judged(0, "0:x");
        judged(0, "0:x", "10:x", "-10:x");
        judged(0, "0:1,2");
        judged(0, "0:1,2", "10:x", "-10:x");
        judged(0, "0:-500,-499", "1:499,500");
        // straight sides lie on the line, one tick more in is a dent, on the left and on the right
        judged(0, "0:0,100", "10:10,100", "20:20,100");
        judged(2, "20:20,100", "10:11,100", "0:0,100", "30:30,100", "-10:-10,100");
        judged(1, "0:0,100", "10:11,100", "20:20,100");
        judged(0, "0:0,100", "10:9,100", "20:20,100");
        judged(0, "0:0,80", "10:0,90", "20:0,100");
        judged(1, "0:0,80", "10:0,89", "20:0,100");
        judged(0, "0:0,80", "10:0,91", "20:0,100");
        // heights far apart by unlike steps: 1/4 of the way
        judged(0, "0:0,100", "10:10,100", "40:40,100");
        judged(1, "0:0,100", "10:11,100", "40:40,100");
        // one that missed between two that did not
        judged(1, "0:0,10", "5:x", "10:0,10");
        judged(0, "0:0,10", "11:x", "10:0,10");
        judged(0, "-200:-500,500", "200:-500,500", "0:-500,500");
    }

    private static void fitsByError() {
        ShadowSpans x = Check.with("0:0,100", "10:11,100");
        check.due("fits() ahead of the third", x.fits(), 1);
        Check.type(x, "20:20,100");
        x.report();
        check.due("fits()", x.fits(), 0);
        check.due("error(1, 1)", x.error(1, 1), 0);
        check.due("fits() on the bound", x.fits(), 1);
        x.error(1, 0);
        x.error(0, 1);
        check.due("fits() by half a tick too little", x.fits(), 0);
        x.error(2, 1);
        check.due("fits() by two ends", x.fits(), 1);
        x.drop(1);
        x.error(0, 0);
        x.error(1, 0);
        check.due("fits() of two", x.fits(), 1);
        // the left may need one end and the right another
        ShadowSpans y = Check.with("0:0,100~1", "10:12,88~1", "20:20,80~1");
        check.due("fits() by errors on both sides", y.fits(), 1);
        y.error(1, 0);
        check.due("fits() with a dent on both sides", y.fits(), 0);
    }

    private static void wrong() {
        // any one of the three would do: the least bit
        judged(1, "0:0,10", "10:x", "20:0,10");
        judged(1, "10:x", "0:0,10", "20:0,10");
        // only the one in the middle sets all free
        judged(4, "0:0,10", "30:0,10", "15:x", "40:0,10", "-10:0,10");
        // fewer stations ahead of a lesser sum: bit 7 alone
        judged(128, "0:0,100", "10:0,100", "20:0,100", "30:0,100", "-10:0,100", "-20:0,100", "-30:0,100", "5:x");
        // two must go: of the pairs that do, the least sum
        judged(3, "5:x", "15:x", "0:0,10", "10:0,10", "20:0,10");
        judged(3, "0:0,10", "10:0,10", "5:x", "15:x", "20:0,10");
        judged(3, "20:0,10", "10:0,10", "5:x", "15:x", "0:0,10");
        judged(3, "20:0,10", "5:x", "10:0,10", "15:x", "0:0,10");
        judged(5, "0:0,10", "40:x", "20:0,10", "5:x", "15:x", "10:0,10");
        // a bulge far out makes two others wrong, so it goes itself
        judged(4, "0:0,10", "10:0,10", "20:0,90", "30:0,10", "40:0,10");
        ShadowSpans x = Check.with("0:0,10", "10:x", "20:0,10", "5:x");
        check.due("wrong() of two misses between", x.wrong(), 1);
        x.drop(0);
        check.due("wrong() when it is gone", x.wrong(), 0);
    }

    /** Each three clash, so that no more than two may stay. */
    private static void allClash() {
        judged(63, "1:49,99", "2:46,99", "3:41,99", "4:34,99", "5:25,99", "6:14,99", "7:1,99", "8:-14,99");
    }
}
