import java.util.ArrayList;
import java.util.Arrays;
import java.util.List;

/**
 * All bodies that fit some stations, as a linear program: the unknowns are where a body's left and
 * right side lie at each chord's height and at one height more, and the x of a point of it there.
 */
final class Bodies {
    private final List<int[]> chords = new ArrayList<>();
    private final List<int[]> misses = new ArrayList<>();
    private final int speed;

    Bodies(List<int[]> stations, int speed) {
        this.speed = speed;
        for (int[] s : stations) {
            (s[1] == 0 ? chords : misses).add(s);
        }
        chords.sort((a, b) -> a[0] - b[0]);
    }

    boolean any() {
        return chords.isEmpty() || reach(chords.get(0)[0], 0) != null;
    }

    /** The least x (side 0) or the greatest at h; null: OUT; its least null: NONE. */
    Simplex.Answer reach(int h, int side) {
        if (isCut(h)) {
            return null;
        }
        int[] heights = heights(h);
        Rational[] sum = zeros(2 * heights.length + 1);
        sum[sum.length - 1] = Rational.of(side == 0 ? 1 : -1);
        Simplex.Answer answer = program(heights, h).least(sum);
        if (answer == null || answer.least == null || side == 0) {
            return answer;
        }
        return new Simplex.Answer(answer.least.negated());
    }

    /** Whether one that missed lies among the chords and this height. */
    private boolean isCut(int h) {
        int low = Math.min(h, chords.get(0)[0]);
        int high = Math.max(h, chords.get(chords.size() - 1)[0]);
        for (int[] miss : misses) {
            if (low <= miss[0] && miss[0] <= high) {
                return true;
            }
        }
        return false;
    }

    private int[] heights(int h) {
        int[] heights = new int[chords.size() + 1];
        for (int i = 0; i < chords.size(); i++) {
            heights[i] = chords.get(i)[0];
        }
        heights[chords.size()] = h;
        return Arrays.stream(heights).sorted().distinct().toArray();
    }

    /** Left sides at the heights, right sides at them, and the x that is asked for. */
    private Simplex program(int[] heights, int h) {
        int n = heights.length;
        Simplex program = new Simplex(2 * n + 1);
        for (int[] chord : chords) {
            int i = Arrays.binarySearch(heights, chord[0]);
            within(program, n, i, chord[2] - chord[4], chord[2] + chord[4]);
            within(program, n, n + i, chord[3] - chord[4], chord[3] + chord[4]);
        }
        for (int i = 1; i < n - 1; i++) {
            undented(program, heights, i, 0, 1);
            undented(program, heights, i, n, -1);
        }
        int asked = Arrays.binarySearch(heights, h);
        ordered(program, n, asked, 2 * n);
        ordered(program, n, 2 * n, n + asked);
        return program;
    }

    private void within(Simplex program, int n, int unknown, int least, int most) {
        Rational[] up = zeros(2 * n + 1);
        up[unknown] = Rational.ONE;
        program.atMost(up, Rational.of((long) speed * most));
        Rational[] down = zeros(2 * n + 1);
        down[unknown] = Rational.of(-1);
        program.atMost(down, Rational.of((long) -speed * least));
    }

    private static void ordered(Simplex program, int n, int less, int more) {
        Rational[] factors = zeros(2 * n + 1);
        factors[less] = Rational.ONE;
        factors[more] = Rational.of(-1);
        program.atMost(factors, Rational.ZERO);
    }

    /** Three heights that follow one another: the side in the middle is not farther in than the line. */
    private static void undented(Simplex program, int[] heights, int i, int from, int sign) {
        Rational[] factors = zeros(2 * heights.length + 1);
        factors[from + i] = Rational.of((long) sign * (heights[i + 1] - heights[i - 1]));
        factors[from + i - 1] = Rational.of((long) -sign * (heights[i + 1] - heights[i]));
        factors[from + i + 1] = Rational.of((long) -sign * (heights[i] - heights[i - 1]));
        program.atMost(factors, Rational.ZERO);
    }

    private static Rational[] zeros(int n) {
        Rational[] zeros = new Rational[n];
        Arrays.fill(zeros, Rational.ZERO);
        return zeros;
    }
}
