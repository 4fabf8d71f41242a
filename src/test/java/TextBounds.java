/** Promises 1 to 5, a new object, letter, blank, fault, report: each boundary, and a step to each side of it. */
final class TextBounds {
    private static final int NONE = ShadowSpans.NONE;
    private static final int UNKNOWN = ShadowSpans.UNKNOWN;
    private static final int OUTSIDE = ShadowSpans.OUTSIDE;
    private static final int STATE = ShadowSpans.STATE;
    private static final int FULL = ShadowSpans.FULL;
    /** A report can't be longer. */
    private static final String LONGEST = "-200:-500,-459~20";

    private final Check check;

    TextBounds(Check check) {
        this.check = check;
    }

    void all() {
        newObject();
        letterCode();
        letterFull();
        blank();
        faultPlace();
        faultNotAsked();
        faultNone();
        faultTooGreat();
        report();
        reportState();
        reportFull();
    }

    private void fault(String text, int place) {
        ShadowSpans x = new ShadowSpans();
        Check.type(x, text);
        check.due("fault() of '" + text + "'", x.fault(), place);
    }

    private static ShadowSpans eightMisses() {
        return Check.with("0:x", "1:x", "2:x", "3:x", "4:x", "5:x", "6:x", "7:x");
    }

    private void newObject() {
        check.sentence("Promise 1", "No STATIONS.");
        ShadowSpans x = new ShadowSpans();
        check.due("count(0)", x.count(0), 0);
        check.due("station(0, 0)", x.station(0, 0), UNKNOWN);
        check.due("drop(0)", x.drop(0), UNKNOWN);
        check.due("error(0, 0)", x.error(0, 0), UNKNOWN);
        check.due("at(0)", x.at(0), NONE);
        int[] rest = {0, 0, 0, 10, 0, 0};
        for (int what = 0; what < rest.length; what++) {
            check.due("count(" + what + ")", x.count(what), rest[what]);
        }
        check.due("the first number", Check.report(x, "0:x"), 0);
        check.due("count(0) of another new one", new ShadowSpans().count(0), 0);
        check.due("at(0) of another new one", new ShadowSpans().at(0), NONE);
        check.due("count(0) of the first", x.count(0), 1);
    }

    private void letterCode() {
        check.sentence("Promise 2", "A letter comes behind THE PAGE, by its code: how many THE PAGE has.");
        ShadowSpans x = new ShadowSpans();
        check.due("letter('5')", x.letter('5'), 1);
        check.due("letter(':')", x.letter(':'), 2);
        check.due("letter('x')", x.letter('x'), 3);
        check.due("fault() of the letters in their order", x.fault(), 3);
        check.due("report()", x.report(), 0);
        check.due("station(0, 0)", x.station(0, 0), 5);
        check.due("the first letter behind it", x.letter('5'), 1);
        check.sentence("Promise 2", "OUTSIDE: code (32 to 126);");
        int[] outside = {31, 127, 30, 128, 0, -1, 32 - 256, 32 + 256, 32 + 65536, Integer.MIN_VALUE, Integer.MAX_VALUE};
        for (int code : outside) {
            ShadowSpans y = Check.with("0:x");
            Check.type(y, "7:");
            check.refused("letter(" + code + ")", y, () -> y.letter(code), OUTSIDE);
        }
        ShadowSpans z = new ShadowSpans();
        int[] within = {32, 33, 125, 126};
        for (int i = 0; i < within.length; i++) {
            check.due("letter(" + within[i] + ")", z.letter(within[i]), i + 1);
        }
    }

    private void letterFull() {
        check.sentence("Promise 2", "FULL: there are 24.");
        ShadowSpans x = new ShadowSpans();
        for (int i = 1; i <= 24; i++) {
            check.due("letter no. " + i, x.letter(64 + i), i);
        }
        check.refused("letter no. 25", x, () -> x.letter(65), FULL);
        check.refused("letter no. 25 of code 32", x, () -> x.letter(32), FULL);
        check.refused("letter no. 25 of code 126", x, () -> x.letter(126), FULL);
        check.refused("letter no. 25 of code 31, OUTSIDE told ahead of FULL", x, () -> x.letter(31), OUTSIDE);
        check.refused("letter no. 25 of code 127, OUTSIDE told ahead of FULL", x, () -> x.letter(127), OUTSIDE);
        check.due("count(2)", x.count(2), 24);
        check.due("blank()", x.blank(), 24);
        check.due("letter behind it", x.letter(65), 1);
    }

    private void blank() {
        check.sentence("Promise 3", "THE PAGE is empty: how many letters it had.");
        int[] lengths = {0, 1, 2, 23, 24};
        for (int length : lengths) {
            ShadowSpans x = Check.with("3:0,9");
            for (int i = 0; i < length; i++) {
                x.letter('7');
            }
            check.due("blank() of " + length, x.blank(), length);
            check.due("count(2) behind it", x.count(2), 0);
            check.due("fault() behind it", x.fault(), 0);
            check.due("report() behind it", x.report(), STATE);
            check.due("blank() again", x.blank(), 0);
            check.due("STATIONS stay", x.count(0), 1);
            check.due("a text behind it", Check.report(x, "7:x"), 1);
            check.due("its HEIGHT", x.station(1, 0), 7);
        }
    }

    private void faultPlace() {
        check.sentence("Promise 4", "The place (from 0) of the first letter of THE PAGE with which, and those ahead of"
            + " it, no REPORT begins");
        String[] signs = {" ", "!", "/", ":", ",", "x", "~", "}", "a"};
        for (String sign : signs) {
            fault(sign, 0);
            fault(sign + "1:x", 0);
        }
        fault("1 ", 1);
        fault("-:", 1);
        fault("-0", 1);
        fault("00", 1);
        fault("1:!", 2);
        fault("1:xx", 3);
        fault("1:-0", 3);
        fault("1:2:", 3);
        fault("1:2,:", 4);
        fault("1:2,-~", 5);
        fault("1:2,3,", 5);
        fault("1:2,3~0", 6);
        fault("1:2,3~-", 6);
        fault("1:2,3~4~", 7);
        // the first of several, and one behind the longest report there is
        fault("x:y,z", 0);
        fault("1:y,z", 2);
        fault(LONGEST + "0", 17);
        fault(LONGEST + "~", 17);
        fault(LONGEST + "       ", 17);
        fault("1:xxxxxxxxxxxxxxxxxxxxxx", 3);
        ShadowSpans x = new ShadowSpans();
        Check.type(x, "1:2,3~4 ");
        check.refused("report() where fault() tells a place", x, x::report, STATE);
        check.due("fault() asked again", x.fault(), 7);
        check.due("count(2) behind fault()", x.count(2), 8);
    }

    private void faultNotAsked() {
        check.sentence("Promise 4", "(whether BACK is great enough, or there is a STATION of that HEIGHT, is not asked"
            + " here);");
        fault("0:5,6", 5);
        fault("0:5,5", 5);
        fault("0:5,4", 5);
        fault("0:500,-500~20", 13);
        fault("0:0,2~1", 7);
        fault("0:0,3~1", 7);
        ShadowSpans x = eightMisses();
        Check.type(x, "7:x");
        check.due("fault() of a HEIGHT that is there", x.fault(), 3);
        x.blank();
        Check.type(x, "8:x");
        check.due("fault() when eight are there", x.fault(), 3);
    }

    private void faultNone() {
        check.sentence("Promise 4", "how many letters it has, if there is none.");
        fault("", 0);
        String[] whole = {"-200:x", "200:x", LONGEST, "0:-500,500", "-1:-1,0~20"};
        for (String text : whole) {
            for (int length = 0; length <= text.length(); length++) {
                fault(text.substring(0, length), length);
            }
        }
    }

    private void faultTooGreat() {
        check.sentence("Promise 4", "(A number that is too great, or too far below 0, is wrong at the figure by which"
            + " it becomes that.)");
        String[] heads = {"", "0:", "0:0,"};
        int[] limits = {200, 500, 500};
        for (int i = 0; i < heads.length; i++) {
            int at = heads[i].length();
            int limit = limits[i];
            for (int number = 0; number <= 1000; number++) {
                String text = heads[i] + number;
                fault(text, number <= limit ? text.length() : at + (number < 1000 ? 2 : 3));
            }
            fault(heads[i] + "-" + (limit - 1), at + 4);
            fault(heads[i] + "-" + limit, at + 4);
            fault(heads[i] + "-" + (limit + 1), at + 3);
            fault(heads[i] + limit + "0", at + 3);
            fault(heads[i] + "-" + limit + "0", at + 4);
            fault(heads[i] + "999999999999", at + 2);
            fault(heads[i] + "-999999999999", at + 3);
            // 2 to the power of 32: what wraps would be 0 again
            fault(heads[i] + "4294967296", at + (limit == 500 ? 3 : 2));
        }
        int[][] errors = {{1, 7}, {9, 7}, {10, 8}, {19, 8}, {20, 8}, {21, 7}, {22, 7}, {29, 7}, {30, 7}, {99, 7}};
        for (int[] pair : errors) {
            fault("0:0,1~" + pair[0], pair[1]);
        }
        fault("0:0,1~100", 8);
        fault("0:0,1~190", 8);
        fault("0:0,1~200", 8);
        fault("0:0,1~210", 7);
    }

    private void report() {
        check.sentence("Promise 5", "THE PAGE is read as a REPORT of a STATION that comes: its number; THE PAGE is empty"
            + " then.");
        ShadowSpans x = new ShadowSpans();
        for (int i = 0; i < 8; i++) {
            Check.type(x, 20 * i - 60 + ":-7,9~" + (i + 1 > 7 ? 7 : i + 1));
            check.due("count(2) ahead of report no. " + i, x.count(2) > 0);
            check.due("report no. " + i, x.report(), i);
            check.due("count(2) behind it", x.count(2), 0);
            check.due("fault() behind it", x.fault(), 0);
            check.due("station(" + i + ", 0)", x.station(i, 0), 20 * i - 60);
        }
        // what an earlier text told does not stay
        ShadowSpans y = Check.with("-1:-9,-4~2");
        Check.report(y, "1:3,4");
        int[] facts = {1, 0, 3, 4, 0};
        for (int what = 0; what < facts.length; what++) {
            check.due("station(1, " + what + ")", y.station(1, what), facts[what]);
        }
        check.due("a miss behind a chord", Check.report(y, "2:x"), 2);
        check.due("station(2, 1)", y.station(2, 1), 1);
        check.due("a chord behind a miss", Check.report(y, "3:0,1"), 3);
        check.due("station(3, 1)", y.station(3, 1), 0);
    }

    private void reportState() {
        check.sentence("Promise 5", "STATE: it is none, or BACK is not great enough, or there is a STATION of that"
            + " HEIGHT;");
        String[] refused = {"", "4", "4:", "4:1,", "4:1,9~", "4:xx", "201:x", "-201:x", "4:-501,0", "4:0,501", "4:0,99~21",
            "4:0,99~0", "4:5,4", "4:5,5", "4:0,2~1", "4:0,1~1", "4:0,40~20", "3:x", "3:0,9", "3:9,0"};
        for (String text : refused) {
            ShadowSpans x = Check.with("3:0,9", "9:x");
            Check.type(x, text);
            check.refused("report() of '" + text + "'", x, x::report, STATE);
            check.due("count(2) behind it", x.count(2), text.length());
        }
        String[] taken = {"4:x", "200:x", "-200:x", "4:-500,0", "4:0,500", "4:0,99~20", "4:0,99~1", "4:5,6", "4:0,3~1",
            "4:0,41~20", "2:x", "8:x", "10:x"};
        for (String text : taken) {
            ShadowSpans x = Check.with("3:0,9", "9:x");
            check.due("report() of '" + text + "'", Check.report(x, text), 2);
        }
    }

    private void reportFull() {
        check.sentence("Promise 5", "FULL: there are 8.");
        ShadowSpans x = eightMisses();
        String[] refused = {"8:x", "8:0,1", "-200:-500,500~20"};
        for (String text : refused) {
            x.blank();
            Check.type(x, text);
            check.refused("a ninth '" + text + "'", x, x::report, FULL);
            check.due("count(2) behind it", x.count(2), text.length());
        }
        String[] state = {"", "8:y", "8:1,1", "8:0,2~1", "7:x", "0:0,1", "201:x"};
        for (String text : state) {
            x.blank();
            Check.type(x, text);
            check.refused("a ninth '" + text + "', STATE told ahead of FULL", x, x::report, STATE);
        }
        check.due("drop(3)", x.drop(3), 7);
        check.due("an eighth again", Check.report(x, "3:x"), 7);
        check.due("a ninth again", Check.report(x, "8:x"), FULL);
    }
}
