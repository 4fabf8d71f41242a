import java.util.ArrayList;
import java.util.List;

/**
 * The least of a sum under linear bounds, exactly: the textbook's way in two phases, with Bland's
 * rule. It knows nothing of hulls or lines, so what it says of bodies is a second opinion.
 */
final class Simplex {
    private final int unknowns;
    private final List<Rational[]> rows = new ArrayList<>();
    private final List<Rational> bounds = new ArrayList<>();

    /** Each unknown may be of any sign: inside it is the difference of two that may not. */
    Simplex(int unknowns) {
        this.unknowns = unknowns;
    }

    /** factors * unknowns is at most bound. */
    void atMost(Rational[] factors, Rational bound) {
        rows.add(factors);
        bounds.add(bound);
    }

    /** null: nothing keeps to the bounds. */
    Answer least(Rational[] sum) {
        int m = rows.size();
        int n = 2 * unknowns + m;
        Rational[][] table = new Rational[m][n + m + 1];
        int[] basis = new int[m];
        for (int r = 0; r < m; r++) {
            boolean flip = bounds.get(r).signum() < 0;
            for (int c = 0; c < table[r].length; c++) {
                table[r][c] = Rational.ZERO;
            }
            for (int u = 0; u < unknowns; u++) {
                Rational f = flip ? rows.get(r)[u].negated() : rows.get(r)[u];
                table[r][2 * u] = f;
                table[r][2 * u + 1] = f.negated();
            }
            table[r][2 * unknowns + r] = flip ? Rational.ONE.negated() : Rational.ONE;
            table[r][n + r] = Rational.ONE;
            table[r][n + m] = flip ? bounds.get(r).negated() : bounds.get(r);
            basis[r] = flip ? n + r : 2 * unknowns + r;
        }
        Rational[] helpers = new Rational[n + m];
        Rational[] costs = new Rational[n + m];
        for (int c = 0; c < n + m; c++) {
            helpers[c] = c >= n ? Rational.ONE : Rational.ZERO;
            costs[c] = c < 2 * unknowns ? (c % 2 == 0 ? sum[c / 2] : sum[c / 2].negated()) : Rational.ZERO;
        }
        descend(table, basis, helpers, n + m);
        if (value(table, basis, helpers).signum() > 0) {
            return null;
        }
        for (int r = 0; r < m; r++) {
            for (int c = 0; c < n && basis[r] >= n; c++) {
                if (table[r][c].signum() != 0) {
                    pivot(table, basis, r, c);
                }
            }
        }
        boolean ends = descend(table, basis, costs, n);
        return new Answer(ends ? value(table, basis, costs) : null);
    }

    /** Whether there is a least. */
    private static boolean descend(Rational[][] table, int[] basis, Rational[] costs, int columns) {
        while (true) {
            int enter = -1;
            for (int c = 0; c < columns && enter < 0; c++) {
                Rational gain = costs[c];
                for (int r = 0; r < table.length; r++) {
                    if (costs[basis[r]].signum() != 0 && table[r][c].signum() != 0) {
                        gain = gain.minus(costs[basis[r]].times(table[r][c]));
                    }
                }
                if (gain.signum() < 0) {
                    enter = c;
                }
            }
            if (enter < 0) {
                return true;
            }
            int leave = -1;
            Rational best = null;
            for (int r = 0; r < table.length; r++) {
                if (table[r][enter].signum() > 0) {
                    Rational ratio = table[r][table[r].length - 1].by(table[r][enter]);
                    int order = best == null ? -1 : ratio.compareTo(best);
                    if (order < 0 || order == 0 && basis[r] < basis[leave]) {
                        best = ratio;
                        leave = r;
                    }
                }
            }
            if (leave < 0) {
                return false;
            }
            pivot(table, basis, leave, enter);
        }
    }

    private static void pivot(Rational[][] table, int[] basis, int leave, int enter) {
        Rational by = table[leave][enter];
        for (int c = 0; c < table[leave].length; c++) {
            if (table[leave][c].signum() != 0) {
                table[leave][c] = table[leave][c].by(by);
            }
        }
        for (int r = 0; r < table.length; r++) {
            Rational factor = table[r][enter];
            if (r != leave && factor.signum() != 0) {
                for (int c = 0; c < table[r].length; c++) {
                    if (table[leave][c].signum() != 0) {
                        table[r][c] = table[r][c].minus(factor.times(table[leave][c]));
                    }
                }
            }
        }
        basis[leave] = enter;
    }

    private static Rational value(Rational[][] table, int[] basis, Rational[] costs) {
        Rational sum = Rational.ZERO;
        for (int r = 0; r < table.length; r++) {
            sum = sum.plus(costs[basis[r]].times(table[r][table[r].length - 1]));
        }
        return sum;
    }

    /** The least; null: it goes on without an end. */
    static final class Answer {
        final Rational least;

        Answer(Rational least) {
            this.least = least;
        }
    }
}
