import java.util.function.LongSupplier;

/** What the project's tests share: typing reports, comparing answers, and the exit code. */
final class Check {
    private final Document document;
    private String sentence = "";
    private int askedOfSentence = 1;
    private int asked;
    private int wrong;

    Check() {
        this(null);
    }

    /** One whose answers are each due by a sentence of the document. */
    Check(Document document) {
        this.document = document;
    }

    /** What is asked from here on would be amiss if these words of the document did not hold. */
    void sentence(String section, String words) {
        close();
        due("the document, " + section + ", says: " + words, document.quote(section, words));
        sentence = section + ", \"" + words + "\": ";
        askedOfSentence = 0;
    }

    /** A sentence is not held by a test that asks nothing. */
    void close() {
        if (askedOfSentence == 0) {
            due("a question", false);
        }
        sentence = "";
    }

    void due(String call, long got, long want) {
        asked++;
        askedOfSentence++;
        if (got != want) {
            wrong++;
            if (wrong <= 40) {
                System.out.println(sentence + call + " answered " + got + ", due is " + want);
            }
        }
    }

    void due(String call, boolean holds) {
        due(call, holds ? 1 : 0, 1);
    }

    /** The call is refused in this way, and changes nothing. */
    void refused(String call, ShadowSpans x, LongSupplier answer, int refusal) {
        long before = x.digest();
        due(call, answer.getAsLong(), refusal);
        due("digest() behind the refused " + call, x.digest(), before);
    }

    /** Ends the test's program, with exit code 1 if an answer was not the one due. */
    void end(String name) {
        System.out.println(name + ": " + asked + " answers, " + wrong + " not as due");
        if (wrong != 0 || asked == 0) {
            System.exit(1);
        }
    }

    static void type(ShadowSpans x, String text) {
        for (int i = 0; i < text.length(); i++) {
            x.letter(text.charAt(i));
        }
    }

    /** What report() answers to this text alone. */
    static int report(ShadowSpans x, String text) {
        x.blank();
        type(x, text);
        return x.report();
    }

    /** A new object to which these reports have come. */
    static ShadowSpans with(String... reports) {
        ShadowSpans x = new ShadowSpans();
        for (String report : reports) {
            type(x, report);
            if (x.report() < 0) {
                throw new IllegalStateException("the test's own report is refused: " + report);
            }
        }
        return x;
    }

    /** What the digest makes of these numbers. */
    static long fold(long... numbers) {
        long sum = 1613;
        for (long number : numbers) {
            sum = 31 * sum + number;
        }
        return sum;
    }
}
