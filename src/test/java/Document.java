import java.io.IOException;
import java.nio.file.Files;
import java.nio.file.Path;
import java.util.ArrayList;
import java.util.BitSet;
import java.util.LinkedHashMap;
import java.util.List;
import java.util.Map;

/** The document's sections, and which of their words a test has quoted as the sentence that it holds. */
final class Document {
    private static final Path PLACE = Path.of("../shared/DOC.md");

    private final Map<String, String> texts = new LinkedHashMap<>();
    private final Map<String, BitSet> quoted = new LinkedHashMap<>();

    Document() throws IOException {
        for (String section : Files.readString(PLACE).split("(?m)^## ")) {
            int end = section.indexOf('\n');
            if (end > 0) {
                String title = section.substring(0, end);
                String key = title.startsWith("Promise") ? title.replaceAll(":.*", "") : title;
                texts.put(key, plain(section.substring(end)));
                quoted.put(key, new BitSet());
            }
        }
    }

    /** Without what is no sentence of the document: fences, heads of parts and of calls. */
    private static String plain(String section) {
        return section.replaceAll("(?m)^```.*$", " ").replaceAll("(?m)^Ahead of the calls.*$", " ")
            .replaceAll("(?m)^`[^`]*`:", " ").replaceAll("======== [0-9]", " ").replaceAll("\\s+", " ");
    }

    /** Whether the section has these words; they count as quoted from then on. */
    boolean quote(String section, String words) {
        int at = texts.getOrDefault(section, "").indexOf(words);
        if (at < 0) {
            return false;
        }
        quoted.get(section).set(at, at + words.length());
        return true;
    }

    /** What no test has quoted of the terms and of the promises. */
    List<String> unquoted() {
        List<String> rest = new ArrayList<>();
        for (String section : texts.keySet()) {
            if (section.equals("Terms") || section.startsWith("Promise")) {
                gather(section, rest);
            }
        }
        return rest;
    }

    private void gather(String section, List<String> rest) {
        String text = texts.get(section);
        BitSet marks = quoted.get(section);
        for (int from = marks.nextClearBit(0); from < text.length();) {
            int next = marks.nextSetBit(from);
            int to = next < 0 ? text.length() : next;
            if (text.substring(from, to).matches(".*[A-Za-z0-9].*")) {
                rest.add(section + ": " + text.substring(from, to).trim());
            }
            from = marks.nextClearBit(to);
        }
    }
}
