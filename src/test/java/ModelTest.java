import java.util.ArrayList;
import java.util.List;
import java.util.Random;
import java.util.function.ToIntFunction;

/** Runs of calls drawn by fixed seeds, each answer beside that of the model; all promises. */
public final class ModelTest {
    private static final Check check = new Check();

    public static void main(String[] args) {
        int runs = args.length > 0 ? Integer.parseInt(args[0]) : 160;
        int first = args.length > 1 ? Integer.parseInt(args[1]) : 0;
        for (int seed = first; seed < first + runs; seed++) {
            new ModelTest(seed).run();
        }
        check.end("ModelTest");
    }

    private final Random random;
    private final String name;
    private final List<ToIntFunction<ShadowSpans>> changes = new ArrayList<>();
    private final Model model = new Model();
    private final int heights;
    private final int ticks;
    private ShadowSpans object = new ShadowSpans();
    private int calls;

    /** Narrow runs make many straight lines and many misfits; wide ones reach the document's limits. */
    private ModelTest(int seed) {
        random = new Random(seed);
        name = "seed " + seed + ": ";
        heights = new int[] {4, 12, 60, 200}[random.nextInt(4)];
        ticks = new int[] {6, 20, 90, 500}[random.nextInt(4)];
    }

    /** A step takes up to 20 calls, so that all changes of a run find room in 512. */
    private void run() {
        for (int step = 0; step < 24; step++) {
            change();
            if (random.nextInt(3) == 0) {
                askTexts();
                askStations();
                askFit();
            }
        }
    }

    private void due(String call, long got, long want) {
        check.due(name + call, got, want);
    }

    /** Behind its 512th call an object may answer anything, so another one goes through all changes. */
    private ShadowSpans x() {
        if (calls == 512) {
            object = new ShadowSpans();
            for (ToIntFunction<ShadowSpans> change : changes) {
                change.applyAsInt(object);
            }
            calls = changes.size();
        }
        calls++;
        return object;
    }

    private int does(ToIntFunction<ShadowSpans> change) {
        int answer = change.applyAsInt(x());
        changes.add(change);
        return answer;
    }

    private void change() {
        int kind = random.nextInt(12);
        if (kind < 6) {
            write(random.nextInt(4) == 0 ? garbled(reportText()) : reportText());
        } else if (kind == 6) {
            int station = random.nextInt(10) - 1;
            due("drop(" + station + ")", does(y -> y.drop(station)), model.drop(station));
        } else if (kind < 10) {
            int station = random.nextInt(10) - 1;
            int v = random.nextInt(6) == 0 ? random.nextInt(24) - 2 : random.nextInt(4);
            due("error(" + station + ", " + v + ")", does(y -> y.error(station, v)), model.error(station, v));
        } else if (kind == 10) {
            int v = random.nextInt(24) - 1;
            due("speed(" + v + ")", does(y -> y.speed(v)), v < 1 || v > 20 ? ShadowSpans.OUTSIDE : model.speed);
            model.speed = v < 1 || v > 20 ? model.speed : v;
        } else {
            due("blank()", does(ShadowSpans::blank), model.page.length());
            model.page = "";
        }
    }

    private void write(String text) {
        for (int i = 0; i < text.length(); i++) {
            boolean full = model.page.length() == 24;
            model.page = full ? model.page : model.page + text.charAt(i);
            int code = text.charAt(i);
            due("letter(" + code + ")", does(y -> y.letter(code)), full ? ShadowSpans.FULL : model.page.length());
        }
        due("fault() of " + model.page, x().fault(), model.fault());
        int want = model.report();
        due("report()", does(ShadowSpans::report), want);
        if (want < 0) {
            due("blank()", does(ShadowSpans::blank), model.page.length());
            model.page = "";
        }
    }

    private String reportText() {
        int h = random.nextInt(2 * heights + 1) - heights;
        if (random.nextInt(6) == 0) {
            return h + ":x";
        }
        int middle = random.nextInt(3) - 1;
        // a body of sorts, so that many runs fit
        int half = Math.max(1, ticks - Math.abs(h) * ticks / (heights + 1) / 2);
        int gone = Math.max(-500, middle - half + random.nextInt(3));
        int back = Math.min(500, middle + half - random.nextInt(3));
        int error = random.nextInt(3) == 0 ? 0 : 1 + random.nextInt(Math.min(20, 1 + ticks / 8));
        return h + ":" + gone + "," + back + (error == 0 ? "" : "~" + error);
    }

    private String garbled(String text) {
        int at = random.nextInt(text.length());
        char sign = "0123456789-:,~x X9".charAt(random.nextInt(18));
        return text.substring(0, at) + sign + text.substring(at + random.nextInt(2));
    }

    private void askTexts() {
        int[] counts = {model.stations.size(), model.stations.size() - model.chords(), model.page.length(),
            model.speed, model.came, model.went};
        for (int what = 0; what < counts.length; what++) {
            due("count(" + what + ")", x().count(what), counts[what]);
        }
        due("digest()", x().digest(), digest());
    }

    private void askStations() {
        for (int i = 0; i < model.stations.size(); i++) {
            int[] s = model.stations.get(i);
            int[] facts = {s[0], s[1], s[2], s[3], s[4], model.speed * (s[2] - s[4]), model.speed * (s[2] + s[4]),
                model.speed * (s[3] - s[4]), model.speed * (s[3] + s[4])};
            for (int what = 0; what <= 8; what++) {
                due("station(" + i + ", " + what + ")", x().station(i, what),
                    what > 1 && s[1] == 1 ? ShadowSpans.NONE : facts[what]);
            }
        }
        for (int h = -202; h <= 202; h++) {
            due("at(" + h + ")", x().at(h), Math.abs(h) > 200 ? ShadowSpans.OUTSIDE : model.at(h));
        }
    }

    private void askFit() {
        boolean fits = model.fits(0);
        due("fits()", x().fits(), fits ? 1 : 0);
        due("wrong()", x().wrong(), fits ? 0 : model.wrong());
        if (fits) {
            askKernel();
        }
        if (fits && model.chords() > 0) {
            Bodies bodies = model.bodies();
            for (int i = 0; i < 6; i++) {
                askReach(bodies, random.nextInt(2 * heights + 1) - heights);
            }
            askReach(bodies, random.nextInt(401) - 200);
            askReach(bodies, model.stations.get(random.nextInt(model.stations.size()))[0]);
        } else {
            due("reach()", x().reach(0, 0, 0), ShadowSpans.STATE);
            due("lasts()", x().lasts(0, 0), ShadowSpans.STATE);
        }
    }

    private void askKernel() {
        List<int[]> corners = model.corners();
        due("kernel(0)", x().kernel(0), corners.size());
        due("kernel(1)", x().kernel(1), model.area());
        due("kernel(2)", x().kernel(2), model.longest());
        due("kernel(3)", x().kernel(3), model.widest());
        for (int i = 0; i < corners.size(); i++) {
            due("corner(" + i + ", 0)", x().corner(i, 0), corners.get(i)[0]);
            due("corner(" + i + ", 1)", x().corner(i, 1), corners.get(i)[1]);
        }
        for (int h = -200; h <= 200; h++) {
            Rational[] held = model.holds(h);
            for (int i = 0; i < 4; i++) {
                due("holds(" + h + ", " + i / 2 + ", " + i % 2 + ")", x().holds(h, i / 2, i % 2),
                    held == null ? ShadowSpans.OUT : part(held[i / 2], i % 2));
            }
            if (model.chords() > 0) {
                due("lasts(" + h + ", 0)", x().lasts(h, 0), held == null ? 0
                    : held[1].minus(held[0]).by(Rational.of(model.speed)).roundedDown());
            }
        }
    }

    private void askReach(Bodies bodies, int h) {
        Simplex.Answer[] sides = {bodies.reach(h, 0), bodies.reach(h, 1)};
        for (int i = 0; i < 4; i++) {
            Simplex.Answer side = sides[i / 2];
            long want = side == null ? ShadowSpans.OUT
                : side.least == null ? ShadowSpans.NONE : part(side.least, i % 2);
            due("reach(" + h + ", " + i / 2 + ", " + i % 2 + ")", x().reach(h, i / 2, i % 2), want);
        }
        long most = sides[0] == null ? 0
            : sides[0].least == null || sides[1].least == null ? ShadowSpans.NONE
            : sides[1].least.minus(sides[0].least).by(Rational.of(model.speed)).roundedUp();
        due("lasts(" + h + ", 1)", x().lasts(h, 1), most);
    }

    private static long part(Rational number, int part) {
        return part == 0 ? number.top.longValueExact() : number.bottom.longValueExact();
    }

    /** From the answers that the other calls give: those stand beside the model by themselves. */
    private long digest() {
        long sum = 1613;
        for (int i = 0; i < 9 * model.stations.size(); i++) {
            sum = 31 * sum + x().station(i / 9, i % 9);
        }
        sum = 31 * (31 * sum + x().fits()) + x().wrong();
        if (x().fits() == 1) {
            for (int what = 0; what < 4; what++) {
                sum = 31 * sum + x().kernel(what);
            }
            for (int i = 0; i < 2 * x().kernel(0); i++) {
                sum = 31 * sum + x().corner(i / 2, i % 2);
            }
            for (int i = 0; i < 36 && model.chords() > 0; i++) {
                sum = 31 * sum + x().reach(i / 4 * 50 - 200, i / 2 % 2, i % 2);
            }
        }
        for (int i = 0; i < model.page.length(); i++) {
            sum = 31 * sum + model.page.charAt(i);
        }
        for (int what = 0; what <= 5; what++) {
            sum = 31 * sum + x().count(what);
        }
        return sum;
    }
}
