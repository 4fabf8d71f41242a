/** The terms of stations and of reports as texts: each boundary, and a step to each side of it. */
final class ReportBounds {
    private static final int NONE = ShadowSpans.NONE;
    private static final int UNKNOWN = ShadowSpans.UNKNOWN;
    private static final int STATE = ShadowSpans.STATE;
    private static final int FULL = ShadowSpans.FULL;

    private final Check check;

    ReportBounds(Check check) {
        this.check = check;
    }

    void all() {
        eightStations();
        height();
        sameHeight();
        goneAndBack();
        errorOfAStation();
        backGreatEnough();
        partsOfAReport();
        errorOfAReport();
        noZeroAhead();
        minus();
        speedOfTerms();
    }

    private void taken(String text, int... facts) {
        ShadowSpans x = new ShadowSpans();
        Check.type(x, text);
        check.due("report() of '" + text + "'", x.report(), 0);
        for (int what = 0; what < facts.length; what++) {
            check.due("station(0, " + what + ") of '" + text + "'", x.station(0, what), facts[what]);
        }
    }

    private void none(String text) {
        ShadowSpans x = new ShadowSpans();
        Check.type(x, text);
        check.refused("report() of '" + text + "'", x, x::report, STATE);
    }

    private void fault(String text, int place) {
        ShadowSpans x = new ShadowSpans();
        Check.type(x, text);
        check.due("fault() of '" + text + "'", x.fault(), place);
    }

    private void eightStations() {
        check.sentence("What it is", "STATIONS (8 at most) are numbered from 0 as they come.");
        ShadowSpans x = new ShadowSpans();
        for (int i = 0; i < 8; i++) {
            // heights that come from above, so that numbers by height would differ
            check.due("report no. " + i, Check.report(x, 50 - i + ":0,10"), i);
            check.due("count(0)", x.count(0), i + 1);
            check.due("station(" + i + ", 0)", x.station(i, 0), 50 - i);
            check.due("station(" + (i + 1) + ", 0)", x.station(i + 1, 0), UNKNOWN);
        }
        Check.type(x, "42:0,10");
        check.refused("report no. 8", x, x::report, FULL);
        check.due("drop(7)", x.drop(7), 7);
        check.due("report when seven are there", x.report(), 7);
    }

    private void height() {
        check.sentence("Terms", "Each has a HEIGHT (-200 to 200;");
        String[] rests = {":x", ":0,1"};
        for (String rest : rests) {
            taken("-199" + rest, -199);
            taken("-200" + rest, -200);
            none("-201" + rest);
            taken("199" + rest, 199);
            taken("200" + rest, 200);
            none("201" + rest);
            taken("-1" + rest, -1);
            taken("0" + rest, 0);
            taken("1" + rest, 1);
        }
    }

    private void sameHeight() {
        check.sentence("Terms", "no two have the same),");
        String[] firsts = {"5:x", "5:0,10~2"};
        for (String first : firsts) {
            ShadowSpans x = Check.with(first);
            check.due("4:x beside " + first, Check.report(x, "4:x"), 1);
            check.due("6:0,1 beside " + first, Check.report(x, "6:0,1"), 2);
            check.due("-5:x beside " + first, Check.report(x, "-5:x"), 3);
            check.due("50:x beside " + first, Check.report(x, "50:x"), 4);
            check.due("5:x beside " + first, Check.report(x, "5:x"), STATE);
            check.due("5:0,10~2 beside " + first, Check.report(x, "5:0,10~2"), STATE);
            check.due("5:3,9 beside " + first, Check.report(x, "5:3,9"), STATE);
            check.due("6:x beside " + first, Check.report(x, "6:x"), STATE);
            check.due("50:3,9 beside " + first, Check.report(x, "50:3,9"), STATE);
        }
        ShadowSpans ends = Check.with("-200:x", "200:x");
        check.due("-200 again", Check.report(ends, "-200:x"), STATE);
        check.due("200 again", Check.report(ends, "200:x"), STATE);
        check.due("drop(0)", ends.drop(0), 1);
        check.due("-200 when it went", Check.report(ends, "-200:x"), 1);
    }

    private void goneAndBack() {
        check.sentence("Terms", "and either it MISSED, or it has GONE and BACK (-500 to 500)");
        taken("0:x", 0, 1, NONE, NONE, NONE, NONE, NONE, NONE, NONE);
        taken("0:-499,0", 0, 0, -499, 0);
        taken("0:-500,0", 0, 0, -500, 0);
        none("0:-501,0");
        taken("0:0,499", 0, 0, 0, 499);
        taken("0:0,500", 0, 0, 0, 500);
        none("0:0,501");
        taken("0:498,500", 0, 0, 498, 500);
        taken("0:499,500", 0, 0, 499, 500);
        // 500 and -500 are within, though no BACK is great enough then
        fault("0:500,500", 9);
        fault("0:501,500", 4);
        none("0:500,500");
        none("0:500,501");
        taken("0:-500,-498", 0, 0, -500, -498);
        taken("0:-500,-499", 0, 0, -500, -499);
        fault("0:-500,-500", 11);
        fault("0:-500,-501", 10);
        none("0:-500,-500");
        none("0:-501,-500");
    }

    private void errorOfAStation() {
        check.sentence("Terms", "and an ERROR (0 to 20),");
        ShadowSpans x = Check.with("0:-500,500~7");
        check.due("station(0, 4)", x.station(0, 4), 7);
        int[] within = {1, 0, 19, 20};
        for (int v : within) {
            x.error(0, v);
            check.due("station(0, 4) behind error(0, " + v + ")", x.station(0, 4), v);
        }
        x.error(0, 21);
        check.due("station(0, 4) behind error(0, 21)", x.station(0, 4), 20);
        x.error(0, -1);
        check.due("station(0, 4) behind error(0, -1)", x.station(0, 4), 20);
    }

    private void backGreatEnough() {
        check.sentence("Terms", "so that BACK is more than GONE and twice ERROR.");
        int[] errors = {0, 1, 2, 10, 19, 20};
        for (int error : errors) {
            int[] gones = {-500, -2 * error - 1, -2 * error, -1, 0, 459 - error, 498 - 2 * error};
            for (int gone : gones) {
                int equal = gone + 2 * error;
                String tail = error == 0 ? "" : "~" + error;
                none("9:" + gone + "," + (equal - 1 < -500 ? equal : equal - 1) + tail);
                none("9:" + gone + "," + equal + tail);
                taken("9:" + gone + "," + (equal + 1) + tail, 9, 0, gone, equal + 1, error);
                taken("9:" + gone + "," + (equal + 2) + tail, 9, 0, gone, equal + 2, error);
            }
            // the greatest BACK there is
            taken("9:" + (499 - 2 * error) + ",500" + (error == 0 ? "" : "~" + error));
            none("9:" + (500 - 2 * error) + ",500" + (error == 0 ? "" : "~" + error));
        }
    }

    private void partsOfAReport() {
        check.sentence("Terms", "A REPORT is a text: HEIGHT, \":\", then \"x\" (it MISSED), or GONE, \",\", BACK,"
            + " and perhaps \"~\" and ERROR");
        String[] begun = {"", "-", "-1", "-12", "-12:", "-12:-", "-12:-3", "-12:-34", "-12:-34,", "-12:-34,56~"};
        for (String text : begun) {
            none(text);
        }
        taken("-12:x", -12, 1);
        taken("-12:-34,5", -12, 0, -34, 5, 0);
        taken("-12:-34,56", -12, 0, -34, 56, 0);
        taken("-12:-34,56~1", -12, 0, -34, 56, 1);
        taken("-12:-34,56~12", -12, 0, -34, 56, 12);
        // one letter more, one less, one that is another
        String[] amiss = {"-12:xx", "-12:x:", "-12:x,", "-12:x~", "-12:x~1", "-12:x0", "-12:x ", " -12:x", "-12 :x",
            "-12: x", ":x", "x", "12x", "-12;x", "-12,x", "-12:y", "-12:w", "-12:X", "-12::x", "-12:-x", "-12:3x",
            "-12:-34.56", "-12:-34:56", "-12:-34~56", "-12:-34,,56", "-12:-34,x", "-12:,56", "-12:-34,56,",
            "-12:-34,56,1", "-12:-34,56:1", "-12:-34,56x", "-12:-34,56}1", "-12:-34,56~~1", "-12:-34,56~x",
            "-12:-34,56~1~", "-12:-34,56~1x", "-12:-34,56~1 ", "-12:-34,56~1,", "-12:-34,56~1:"};
        for (String text : amiss) {
            none(text);
        }
    }

    private void errorOfAReport() {
        check.sentence("Terms", "(1 to 20; 0 without);");
        taken("0:-99,99", 0, 0, -99, 99, 0);
        none("0:-99,99~");
        none("0:-99,99~0");
        taken("0:-99,99~1", 0, 0, -99, 99, 1);
        taken("0:-99,99~2", 0, 0, -99, 99, 2);
        taken("0:-99,99~9", 0, 0, -99, 99, 9);
        taken("0:-99,99~10", 0, 0, -99, 99, 10);
        taken("0:-99,99~19", 0, 0, -99, 99, 19);
        taken("0:-99,99~20", 0, 0, -99, 99, 20);
        none("0:-99,99~21");
        none("0:-99,99~30");
    }

    private void noZeroAhead() {
        check.sentence("Terms", "numbers in figures without a 0 ahead,");
        String[] heads = {"", "9:", "9:-99,", "9:-99,99~"};
        String[] tails = {":x", ",99", "", ""};
        for (int i = 0; i < heads.length; i++) {
            taken(heads[i] + "1" + tails[i]);
            taken(heads[i] + "9" + tails[i]);
            taken(heads[i] + "10" + tails[i]);
            taken(heads[i] + "20" + tails[i]);
            String[] amiss = {"00", "01", "09", "010", "000", "/", ":", "1/", "1:", "a", "1e1", "1.0", " 1", "1 "};
            for (String number : amiss) {
                none(heads[i] + number + tails[i]);
            }
        }
        taken("100:100,101");
        taken("0:0,1", 0, 0, 0, 1);
        taken("0:-1,0", 0, 0, -1, 0);
        String[] below = {"-01:x", "9:-01,99", "9:-99,-01", "-00:x", "9:-00,99", "9:-99,-00"};
        for (String text : below) {
            none(text);
        }
    }

    private void minus() {
        check.sentence("Terms", "a \"-\" ahead of those below 0 (never of 0).");
        String[] heads = {"", "9:", "9:-99,"};
        String[] tails = {":x", ",99", ""};
        for (int i = 0; i < heads.length; i++) {
            taken(heads[i] + "-1" + tails[i]);
            taken(heads[i] + "-10" + tails[i]);
            taken(heads[i] + "0" + tails[i]);
            taken(heads[i] + "1" + tails[i]);
            String[] amiss = {"-0", "-", "--1", "+1", "+0", "1-", "-+1", "- 1", "0-", "-1-"};
            for (String number : amiss) {
                none(heads[i] + number + tails[i]);
            }
        }
        taken("-1:-1,1", -1, 0, -1, 1);
        taken("-1:-2,-1", -1, 0, -2, -1);
        taken("1:1,2", 1, 0, 1, 2);
        none("9:-99,99~-1");
        none("9:-99,99~-0");
    }

    private void speedOfTerms() {
        check.sentence("Terms", "SPEED is 1 to 20 (10 at first).");
        check.due("count(3) at first", new ShadowSpans().count(3), 10);
        check.due("what speed(11) tells at first", new ShadowSpans().speed(11), 10);
        check.due("what speed(9) tells at first", new ShadowSpans().speed(9), 10);
        int[][] speeds = {{0, 10}, {1, 1}, {2, 2}, {19, 19}, {20, 20}, {21, 10}};
        for (int[] pair : speeds) {
            ShadowSpans x = Check.with("0:1,3");
            check.due("station(0, 5) at first", x.station(0, 5), 10);
            x.speed(pair[0]);
            check.due("count(3) behind speed(" + pair[0] + ")", x.count(3), pair[1]);
            check.due("station(0, 7) behind speed(" + pair[0] + ")", x.station(0, 7), 3 * pair[1]);
        }
    }
}
