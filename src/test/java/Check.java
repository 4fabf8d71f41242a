/** What the project's tests share: typing reports, comparing answers, and the exit code. */
final class Check {
    private int asked;
    private int wrong;

    void due(String call, long got, long want) {
        asked++;
        if (got != want) {
            wrong++;
            if (wrong <= 40) {
                System.out.println(call + " answered " + got + ", due is " + want);
            }
        }
    }

    void due(String call, boolean holds) {
        due(call, holds ? 1 : 0, 1);
    }

    /** Ends the test's program, with exit code 1 if an answer was not the one due. */
    void end(String name) {
        System.out.println(name + ": " + asked + " answers, " + wrong + " not as due");
        if (wrong != 0 || asked == 0) {
            System.exit(1);
        }
    }

    static void type(ShadowSpans x, String text) {
        for (int i = 0; i < text.length(); i++) {
            x.letter(text.charAt(i));
        }
    }

    /** A new object to which these reports have come. */
    static ShadowSpans with(String... reports) {
        ShadowSpans x = new ShadowSpans();
        for (String report : reports) {
            type(x, report);
            if (x.report() < 0) {
                throw new IllegalStateException("the test's own report is refused: " + report);
            }
        }
        return x;
    }

    /** What the digest makes of these numbers. */
    static long fold(long... numbers) {
        long sum = 1613;
        for (long number : numbers) {
            sum = 31 * sum + number;
        }
        return sum;
    }
}
