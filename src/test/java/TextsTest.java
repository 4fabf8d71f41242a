/** Promises 1 to 8: a new object, letter, blank, fault, report, drop, error, speed. */
public final class TextsTest {
    private static final Check check = new Check();

    public static void main(String[] args) {
        newObject();
        letter();
        blank();
        fault();
        report();
        reportOrder();
        drop();
        error();
        speed();
        check.end("TextsTest");
    }

    private static void newObject() {
        ShadowSpans x = new ShadowSpans();
        int[] counts = {0, 0, 0, 10, 0, 0};
        for (int what = 0; what < counts.length; what++) {
            check.due("new count(" + what + ")", x.count(what), counts[what]);
        }
        check.due("new station(0, 0)", x.station(0, 0), ShadowSpans.UNKNOWN);
        check.due("new fits()", x.fits(), 1);
        check.due("new wrong()", x.wrong(), 0);
        check.due("new fault()", x.fault(), 0);
        check.due("new blank()", x.blank(), 0);
        for (int h = -200; h <= 200; h++) {
            check.due("new at(" + h + ")", x.at(h), ShadowSpans.NONE);
        }
        ShadowSpans busy = Check.with("0:0,10", "5:x");
        busy.speed(3);
        check.due("another new object", new ShadowSpans().count(0), 0);
        check.due("another new object's speed", new ShadowSpans().count(3), 10);
    }

    private static void letter() {
        ShadowSpans x = new ShadowSpans();
        int[] refused = {31, 127, 0, -1, 128, 1000, Integer.MIN_VALUE, Integer.MAX_VALUE};
        for (int code : refused) {
            check.due("letter(" + code + ")", x.letter(code), ShadowSpans.OUTSIDE);
        }
        check.due("count(2) after refusals", x.count(2), 0);
        check.due("letter(32)", x.letter(32), 1);
        check.due("letter(126)", x.letter(126), 2);
        for (int i = 3; i <= 24; i++) {
            check.due("letter no. " + i, x.letter(60 + i), i);
        }
        check.due("letter no. 25", x.letter(65), ShadowSpans.FULL);
        check.due("OUTSIDE comes ahead of FULL", x.letter(31), ShadowSpans.OUTSIDE);
        check.due("OUTSIDE comes ahead of FULL", x.letter(127), ShadowSpans.OUTSIDE);
        check.due("count(2) when full", x.count(2), 24);
        check.due("blank() when full", x.blank(), 24);
        check.due("letter behind a blank", x.letter(48), 1);
    }

    private static void blank() {
        ShadowSpans x = new ShadowSpans();
        check.due("blank() of nothing", x.blank(), 0);
        Check.type(x, "0:x");
        check.due("blank()", x.blank(), 3);
        check.due("count(2) behind it", x.count(2), 0);
        check.due("blank() again", x.blank(), 0);
        Check.type(x, "7:x");
        check.due("a report behind a blank", x.report(), 0);
        check.due("its HEIGHT", x.station(0, 0), 7);
    }

    private static void faultOf(String text, int place) {
        ShadowSpans x = new ShadowSpans();
        Check.type(x, text);
        check.due("fault() of '" + text + "'", x.fault(), place);
        check.due("letters left of '" + text + "'", x.count(2), text.length());
    }

    private static void noFault(String text) {
        faultOf(text, text.length());
    }

    private static void fault() {
        String[] begun = {"", "-", "0", "2", "-2", "20", "200", "-200", "199", "0:", "0:x", "0:-", "0:0", "0:5",
            "0:50", "0:500", "0:-500", "0:499,", "0:0,", "0:0,-", "0:0,0", "0:0,-500", "0:0,500", "0:0,1~", "0:0,1~1",
            "0:0,1~9", "0:0,1~10", "0:0,1~19", "0:0,1~20", "-200:-500,-500~20", "9:9,1", "1:2,-3~7", "-1:x"};
        for (String text : begun) {
            noFault(text);
        }
        faultOf(" ", 0);
        faultOf("x", 0);
        faultOf(":", 0);
        faultOf(",", 0);
        faultOf("~", 0);
        faultOf("+1", 0);
        faultOf("--1", 1);
        faultOf("-0", 1);
        faultOf("-:", 1);
        faultOf("00", 1);
        faultOf("01", 1);
        faultOf("0-", 1);
        faultOf("1-", 1);
        faultOf("1x", 1);
        faultOf("1,", 1);
        faultOf("1~", 1);
        faultOf("/", 0);
        faultOf("1/", 1);
        faultOf("1;", 1);
        faultOf("201", 2);
        faultOf("-201", 3);
        faultOf("300", 2);
        faultOf("1000", 3);
        faultOf("2000", 3);
        faultOf("99999999999999999999", 2);
        faultOf("0::", 2);
        faultOf("0:X", 2);
        faultOf("0:,", 2);
        faultOf("0:~", 2);
        faultOf("0: 1", 2);
        faultOf("0:xx", 3);
        faultOf("0:x0", 3);
        faultOf("0:x-", 3);
        faultOf("0:x:", 3);
        faultOf("0:x,", 3);
        faultOf("0:x~", 3);
        faultOf("0:-x", 3);
        faultOf("0:-0", 3);
        faultOf("0:--", 3);
        faultOf("0:-,", 3);
        faultOf("0:00", 3);
        faultOf("0:07", 3);
        faultOf("0:1x", 3);
        faultOf("0:1:", 3);
        faultOf("0:1~", 3);
        faultOf("0:1-", 3);
        faultOf("0:501", 4);
        faultOf("0:-501", 5);
        faultOf("0:600", 4);
        faultOf("0:5000", 5);
        faultOf("0:0,x", 4);
        faultOf("0:0,~", 4);
        faultOf("0:0,,", 4);
        faultOf("0:0,:", 4);
        faultOf("0:0,--", 5);
        faultOf("0:0,-0", 5);
        faultOf("0:0,-~", 5);
        faultOf("0:0,01", 5);
        faultOf("0:0,1,", 5);
        faultOf("0:0,1:", 5);
        faultOf("0:0,1x", 5);
        faultOf("0:0,1-", 5);
        faultOf("0:0,501", 6);
        faultOf("0:0,-501", 7);
        faultOf("0:0,510", 6);
        faultOf("0:0,1~0", 6);
        faultOf("0:0,1~-", 6);
        faultOf("0:0,1~x", 6);
        faultOf("0:0,1~~", 6);
        faultOf("0:0,1~21", 7);
        faultOf("0:0,1~30", 7);
        faultOf("0:0,1~100", 8);
        faultOf("0:0,1~200", 8);
        faultOf("0:0,1~2~", 7);
        faultOf("0:0,1~2,", 7);
        faultOf("0:0,1~2:", 7);
        faultOf("0:0,1~2-", 7);
        faultOf("0:0,1~2x", 7);
        faultOf("201:x,", 2);
        ShadowSpans x = Check.with("5:0,10");
        Check.type(x, "5:9,1");
        check.due("fault() asks neither for BACK nor for the HEIGHT", x.fault(), 5);
    }

    private static void refused(String text) {
        ShadowSpans x = Check.with("3:0,10");
        Check.type(x, text);
        check.due("report() of '" + text + "'", x.report(), ShadowSpans.STATE);
        check.due("its letters stay", x.count(2), text.length());
        check.due("no STATION came", x.count(0), 1);
        check.due("no REPORT came", x.count(4), 1);
    }

    private static void taken(String text, int height, int missed, int gone, int back, int error) {
        ShadowSpans x = Check.with("3:0,10");
        Check.type(x, text);
        check.due("report() of '" + text + "'", x.report(), 1);
        int[] facts = {height, missed, gone, back, error};
        for (int what = 0; what < facts.length; what++) {
            check.due("station(1, " + what + ") of '" + text + "'", x.station(1, what), facts[what]);
        }
        check.due("the page is empty", x.count(2), 0);
        check.due("a STATION came", x.count(0), 2);
        check.due("a REPORT came", x.count(4), 2);
    }

    private static void report() {
        int none = ShadowSpans.NONE;
        taken("0:x", 0, 1, none, none, none);
        taken("-200:x", -200, 1, none, none, none);
        taken("200:-500,500~20", 200, 0, -500, 500, 20);
        taken("-200:-500,-459~20", -200, 0, -500, -459, 20);
        taken("-1:0,1", -1, 0, 0, 1, 0);
        taken("-1:-1,0", -1, 0, -1, 0, 0);
        taken("10:499,500", 10, 0, 499, 500, 0);
        taken("10:7,10~1", 10, 0, 7, 10, 1);
        taken("10:-8,-1~3", 10, 0, -8, -1, 3);
        String[] no = {"", "-", "0", "0:", "0:-", "0:1", "0:1,", "0:1,-", "0:1,2~", "0:1,9~-", "0:xx", "0:x ", "0:1,5~0",
            "0:1,5~21", "201:x", "0:1,501", "01:x", "-0:x", "0:1,1", "0:2,1", "0:0,10~5", "0:0,10~20", "0:7,9~1",
            "3:x", "3:1,2", "3:2,1", "5:1,9 "};
        for (String text : no) {
            refused(text);
        }
        ShadowSpans x = new ShadowSpans();
        Check.type(x, "0:0,11~5");
        check.due("BACK just great enough", x.report(), 0);
        check.due("report() of an empty page", x.report(), ShadowSpans.STATE);
    }

    private static void reportOrder() {
        ShadowSpans x = new ShadowSpans();
        for (int i = 0; i < 8; i++) {
            Check.type(x, i + ":x");
            check.due("report no. " + i, x.report(), i);
        }
        Check.type(x, "8:x");
        check.due("a ninth", x.report(), ShadowSpans.FULL);
        check.due("its letters stay", x.blank(), 3);
        check.due("STATE ahead of FULL: nothing", x.report(), ShadowSpans.STATE);
        Check.type(x, "8:y");
        check.due("STATE ahead of FULL: none", x.report(), ShadowSpans.STATE);
        x.blank();
        Check.type(x, "8:2,1");
        check.due("STATE ahead of FULL: BACK", x.report(), ShadowSpans.STATE);
        x.blank();
        Check.type(x, "7:x");
        check.due("STATE ahead of FULL: HEIGHT", x.report(), ShadowSpans.STATE);
        check.due("count(4)", x.count(4), 8);
        x.drop(7);
        check.due("the HEIGHT is free again", x.report(), 7);
        check.due("count(4)", x.count(4), 9);
    }

    private static void drop() {
        ShadowSpans x = Check.with("10:1,20~2", "-5:x", "30:3,40", "7:-9,50~4");
        int[] unknown = {-1, 4, 8, 9, 100, Integer.MIN_VALUE, Integer.MAX_VALUE};
        for (int station : unknown) {
            check.due("drop(" + station + ")", x.drop(station), ShadowSpans.UNKNOWN);
        }
        check.due("count(0)", x.count(0), 4);
        check.due("count(5)", x.count(5), 0);
        check.due("drop(1)", x.drop(1), 3);
        int[][] left = {{10, 0, 1, 20, 2}, {30, 0, 3, 40, 0}, {7, 0, -9, 50, 4}};
        for (int i = 0; i < left.length; i++) {
            for (int what = 0; what < 5; what++) {
                check.due("station(" + i + ", " + what + ")", x.station(i, what), left[i][what]);
            }
        }
        check.due("at(-5)", x.at(-5), ShadowSpans.NONE);
        check.due("at(7)", x.at(7), 2);
        check.due("drop(3)", x.drop(3), ShadowSpans.UNKNOWN);
        check.due("drop(2)", x.drop(2), 2);
        check.due("drop(0)", x.drop(0), 1);
        check.due("station(0, 0)", x.station(0, 0), 30);
        check.due("drop(0)", x.drop(0), 0);
        check.due("drop(0)", x.drop(0), ShadowSpans.UNKNOWN);
        check.due("count(5)", x.count(5), 4);
        check.due("count(4)", x.count(4), 4);
    }

    private static void error() {
        ShadowSpans x = Check.with("0:0,10~3", "5:x", "6:-500,500");
        check.due("error(-1, 0)", x.error(-1, 0), ShadowSpans.UNKNOWN);
        check.due("error(3, 0)", x.error(3, 0), ShadowSpans.UNKNOWN);
        check.due("UNKNOWN ahead of OUTSIDE", x.error(3, 21), ShadowSpans.UNKNOWN);
        check.due("error(0, -1)", x.error(0, -1), ShadowSpans.OUTSIDE);
        check.due("error(0, 21)", x.error(0, 21), ShadowSpans.OUTSIDE);
        check.due("error(0, MAX)", x.error(0, Integer.MAX_VALUE), ShadowSpans.OUTSIDE);
        check.due("OUTSIDE ahead of STATE", x.error(1, 21), ShadowSpans.OUTSIDE);
        check.due("OUTSIDE ahead of STATE", x.error(1, -1), ShadowSpans.OUTSIDE);
        check.due("error of one that MISSED", x.error(1, 0), ShadowSpans.STATE);
        check.due("BACK would not be great enough", x.error(0, 5), ShadowSpans.STATE);
        check.due("BACK would not be great enough", x.error(0, 20), ShadowSpans.STATE);
        check.due("nothing changed", x.station(0, 4), 3);
        check.due("error(0, 4)", x.error(0, 4), 3);
        check.due("error(0, 4)", x.error(0, 4), 4);
        check.due("station(0, 4)", x.station(0, 4), 4);
        check.due("station(0, 5)", x.station(0, 5), -40);
        check.due("error(0, 0)", x.error(0, 0), 4);
        check.due("station(0, 8)", x.station(0, 8), 100);
        check.due("error(2, 20)", x.error(2, 20), 0);
        check.due("station(2, 4)", x.station(2, 4), 20);
        check.due("station(0, 4)", x.station(0, 4), 0);
    }

    private static void speed() {
        ShadowSpans x = Check.with("0:-3,10~2");
        int[] refused = {0, 21, -1, Integer.MIN_VALUE, Integer.MAX_VALUE};
        for (int v : refused) {
            check.due("speed(" + v + ")", x.speed(v), ShadowSpans.OUTSIDE);
        }
        check.due("count(3)", x.count(3), 10);
        check.due("kernel(2) at 10", x.kernel(2), 8100);
        check.due("speed(20)", x.speed(20), 10);
        check.due("station(0, 5)", x.station(0, 5), -100);
        check.due("kernel(2) at 20", x.kernel(2), 32400);
        check.due("speed(1)", x.speed(1), 20);
        check.due("speed(1)", x.speed(1), 1);
        check.due("station(0, 7)", x.station(0, 7), 8);
        check.due("count(3)", x.count(3), 1);
    }
}
