import java.util.ArrayList;
import java.util.List;
import java.util.regex.Matcher;
import java.util.regex.Pattern;

/** The document once more, by other means: a regular expression, linear programs, and looking at every point. */
final class Model {
    private static final String HEIGHT = "(0|-?(?:[1-9][0-9]?|1[0-9][0-9]|200))";
    private static final String TICK = "(0|-?(?:[1-9][0-9]?|[1-4][0-9][0-9]|500))";
    private static final Pattern REPORT =
        Pattern.compile(HEIGHT + ":(?:x|" + TICK + "," + TICK + "(?:~([1-9]|1[0-9]|20))?)");

    /** {height, missed, gone, back, error} of each. */
    final List<int[]> stations = new ArrayList<>();
    String page = "";
    int speed = 10;
    int came;
    int went;

    int fault() {
        for (int length = 1; length <= page.length(); length++) {
            Matcher matcher = REPORT.matcher(page.substring(0, length));
            if (!matcher.matches() && !matcher.hitEnd()) {
                return length - 1;
            }
        }
        return page.length();
    }

    int report() {
        Matcher matcher = REPORT.matcher(page);
        if (!matcher.matches()) {
            return ShadowSpans.STATE;
        }
        int[] s = {Integer.parseInt(matcher.group(1)), matcher.group(2) == null ? 1 : 0, 0, 0, 0};
        if (s[1] == 0) {
            s[2] = Integer.parseInt(matcher.group(2));
            s[3] = Integer.parseInt(matcher.group(3));
            s[4] = matcher.group(4) == null ? 0 : Integer.parseInt(matcher.group(4));
            if (s[3] - s[2] <= 2 * s[4]) {
                return ShadowSpans.STATE;
            }
        }
        if (at(s[0]) != ShadowSpans.NONE) {
            return ShadowSpans.STATE;
        }
        if (stations.size() == 8) {
            return ShadowSpans.FULL;
        }
        stations.add(s);
        page = "";
        came++;
        return stations.size() - 1;
    }

    int drop(int station) {
        if (station < 0 || station >= stations.size()) {
            return ShadowSpans.UNKNOWN;
        }
        stations.remove(station);
        went++;
        return stations.size();
    }

    int error(int station, int v) {
        if (station < 0 || station >= stations.size()) {
            return ShadowSpans.UNKNOWN;
        }
        if (v < 0 || v > 20) {
            return ShadowSpans.OUTSIDE;
        }
        int[] s = stations.get(station);
        if (s[1] == 1 || s[3] - s[2] <= 2 * v) {
            return ShadowSpans.STATE;
        }
        int old = s[4];
        s[4] = v;
        return old;
    }

    int at(int h) {
        for (int i = 0; i < stations.size(); i++) {
            if (stations.get(i)[0] == h) {
                return i;
            }
        }
        return ShadowSpans.NONE;
    }

    int chords() {
        int chords = 0;
        for (int[] s : stations) {
            chords += 1 - s[1];
        }
        return chords;
    }

    boolean fits(int without) {
        List<int[]> rest = new ArrayList<>();
        for (int i = 0; i < stations.size(); i++) {
            if ((without >> i & 1) == 0) {
                rest.add(stations.get(i));
            }
        }
        return new Bodies(rest, speed).any();
    }

    int wrong() {
        for (int fewest = 0; fewest <= stations.size(); fewest++) {
            for (int without = 0; without < 1 << stations.size(); without++) {
                if (Integer.bitCount(without) == fewest && fits(without)) {
                    return without;
                }
            }
        }
        throw new IllegalStateException("no stations FIT always");
    }

    Bodies bodies() {
        return new Bodies(stations, speed);
    }

    /** The points that span the kernel, {x, h} each. */
    List<int[]> points() {
        List<int[]> points = new ArrayList<>();
        for (int[] s : stations) {
            if (s[1] == 0) {
                points.add(new int[] {speed * (s[2] + s[4]), s[0]});
                points.add(new int[] {speed * (s[3] - s[4]), s[0]});
            }
        }
        return points;
    }

    /** From the least x on, turning left: each next one has all points on its left or on its line. */
    List<int[]> corners() {
        List<int[]> points = points();
        List<int[]> corners = new ArrayList<>();
        for (int[] p : points) {
            if (isCorner(p, points)) {
                corners.add(p);
            }
        }
        corners.sort((a, b) -> a[0] != b[0] ? a[0] - b[0] : a[1] - b[1]);
        List<int[]> under = new ArrayList<>();
        List<int[]> over = new ArrayList<>();
        for (int[] c : corners) {
            int[] first = corners.get(0);
            int[] last = corners.get(corners.size() - 1);
            (turn(first, last, c) <= 0 ? under : over).add(c);
        }
        for (int i = over.size() - 1; i >= 0; i--) {
            under.add(over.get(i));
        }
        return under;
    }

    private static boolean isCorner(int[] p, List<int[]> points) {
        for (int[] a : points) {
            for (int[] b : points) {
                if (a != p && b != p && a != b && isBetween(a, p, b)) {
                    return false;
                }
                for (int[] c : points) {
                    if (a != p && b != p && c != p && turn(a, b, c) > 0
                        && turn(a, b, p) > 0 && turn(b, c, p) > 0 && turn(c, a, p) > 0) {
                        return false;
                    }
                }
            }
        }
        return true;
    }

    private static boolean isBetween(int[] a, int[] p, int[] b) {
        long dot = (long) (a[0] - p[0]) * (b[0] - p[0]) + (long) (a[1] - p[1]) * (b[1] - p[1]);
        return turn(a, p, b) == 0 && dot < 0;
    }

    private static long turn(int[] a, int[] b, int[] c) {
        return (long) (b[0] - a[0]) * (c[1] - a[1]) - (long) (b[1] - a[1]) * (c[0] - a[0]);
    }

    /** Slice by slice: between two heights at which there are points, the width changes evenly. */
    long area() {
        Rational sum = Rational.ZERO;
        for (int h = -200; h < 200; h++) {
            Rational[] low = holds(h);
            Rational[] high = holds(h + 1);
            if (low != null && high != null) {
                sum = sum.plus(low[1].minus(low[0])).plus(high[1].minus(high[0]));
            }
        }
        return sum.roundedDown();
    }

    long longest() {
        long most = 0;
        for (int[] a : points()) {
            for (int[] b : points()) {
                long x = a[0] - b[0];
                long h = a[1] - b[1];
                most = Math.max(most, x * x + h * h);
            }
        }
        return most;
    }

    /** Strips along every line through two points, not along edges alone. */
    long widest() {
        if (chords() < 2) {
            return 0;
        }
        Rational least = null;
        for (int[] a : points()) {
            for (int[] b : points()) {
                long x = a[0] - b[0];
                long h = a[1] - b[1];
                if (x != 0 || h != 0) {
                    long from = Long.MAX_VALUE;
                    long to = Long.MIN_VALUE;
                    for (int[] p : points()) {
                        from = Math.min(from, x * p[1] - h * p[0]);
                        to = Math.max(to, x * p[1] - h * p[0]);
                    }
                    Rational strip = Rational.of((to - from) * (to - from), x * x + h * h);
                    least = least == null || strip.compareTo(least) < 0 ? strip : least;
                }
            }
        }
        return least.roundedDown();
    }

    /** null: OUT. */
    Rational[] holds(int h) {
        Rational[] span = null;
        for (int[] a : points()) {
            for (int[] b : points()) {
                if (a[1] <= h && h <= b[1]) {
                    Rational x = Rational.of(a[0]);
                    if (a[1] < b[1]) {
                        x = x.plus(Rational.of((long) (b[0] - a[0]) * (h - a[1]), b[1] - a[1]));
                    }
                    if (span == null) {
                        span = new Rational[] {x, x};
                    }
                    span[0] = x.compareTo(span[0]) < 0 ? x : span[0];
                    span[1] = x.compareTo(span[1]) > 0 ? x : span[1];
                }
            }
        }
        return span;
    }
}
