import java.io.IOException;
import java.lang.reflect.Constructor;
import java.lang.reflect.Field;
import java.lang.reflect.Method;
import java.lang.reflect.Modifier;
import java.nio.file.Files;
import java.nio.file.Path;
import java.util.ArrayList;
import java.util.List;
import java.util.TreeSet;
import java.util.regex.Matcher;
import java.util.regex.Pattern;

/** The public face, and those rules of LANGUAGE.md that can be seen from the class or its text. */
public final class FaceTest {
    private static final Check check = new Check();
    private static final List<String> FACE = new ArrayList<>();
    private static final Pattern CONSTANT = Pattern.compile("\\b([A-Z]+) = (-[0-9]+)[,;]");
    private static final Pattern METHOD = Pattern.compile("public (\\w+ \\w+\\([^)]*\\));");
    private static final Pattern PART = Pattern.compile("Ahead of the calls (.*) the interface says: (---- .*)\\.");
    private static final String[] BANNED = {
        "throw", "throws", "try", "catch", "finally", "synchronized", "assert", "import", "package", "volatile",
        "native", "var", "yield", "System.out", "Exact", "->", "::", "double", "float"};

    public static void main(String[] args) throws IOException, ReflectiveOperationException {
        String document = Files.readString(Path.of("../shared/DOC.md"));
        String source = Files.readString(Path.of("src/main/java/ShadowSpans.java"));
        Matcher block = Pattern.compile("(?s)```java\\n(.*?)```").matcher(document);
        check.due("the document writes the face out", block.find());
        constants(block.group(1));
        methods(block.group(1));
        parts(document, source);
        members(ShadowSpans.class);
        nested();
        text(source);
        check.end("FaceTest");
    }

    private static void constants(String face) throws ReflectiveOperationException {
        Matcher constant = CONSTANT.matcher(face);
        int found = 0;
        while (constant.find()) {
            Field field = ShadowSpans.class.getField(constant.group(1));
            check.due(constant.group(1), field.getInt(null), Long.parseLong(constant.group(2)));
            check.due(field + " is as the face has it", field.getType() == int.class
                && field.getModifiers() == (Modifier.PUBLIC | Modifier.STATIC | Modifier.FINAL));
            found++;
        }
        check.due("constants of the face", found, 6);
        check.due("public fields", ShadowSpans.class.getFields().length, 6);
    }

    private static void methods(String face) {
        Matcher head = METHOD.matcher(face);
        while (head.find()) {
            FACE.add(head.group(1).replaceAll(" \\w+([,)])", "$1").replace(", ", ","));
        }
        check.due("methods of the face", FACE.size(), 18);
        TreeSet<String> found = new TreeSet<>();
        for (Method method : ShadowSpans.class.getDeclaredMethods()) {
            if (Modifier.isPublic(method.getModifiers())) {
                check.due(method + " is of an object", method.getModifiers(), Modifier.PUBLIC);
                List<String> types = new ArrayList<>();
                for (Class<?> type : method.getParameterTypes()) {
                    types.add(type.getSimpleName());
                }
                found.add(method.getReturnType().getSimpleName() + " " + method.getName()
                    + "(" + String.join(",", types) + ")");
            }
        }
        check.due("the face " + found + " is " + FACE, found.equals(new TreeSet<>(FACE)));
        Constructor<?>[] constructors = ShadowSpans.class.getDeclaredConstructors();
        check.due("constructors", constructors.length, 1);
        check.due("a public constructor without arguments", Modifier.isPublic(constructors[0].getModifiers())
            && constructors[0].getParameterCount() == 0);
        check.due("public and final", ShadowSpans.class.getModifiers(), Modifier.PUBLIC | Modifier.FINAL);
        check.due("in no package", ShadowSpans.class.getPackageName().isEmpty());
    }

    /** The calls stand in the document's order, each part of them behind the words that the document names. */
    private static void parts(String document, String source) {
        Matcher part = PART.matcher(document);
        int at = 0;
        int calls = 0;
        while (part.find()) {
            at = place(source, at, "\n    // " + Pattern.quote(part.group(2)) + "\n");
            for (String name : part.group(1).replace("`", "").split(", ")) {
                at = place(source, at, "\n    public \\w+ " + name + "\\(");
                calls++;
            }
        }
        check.due("calls of all parts", calls, FACE.size());
    }

    /** Where this comes for the first time from there on; it is amiss if it does not. */
    private static int place(String source, int from, String words) {
        Matcher matcher = Pattern.compile(words).matcher(source);
        boolean found = matcher.find(from);
        check.due("the class has, in its place, " + words.trim(), found);
        return found ? matcher.start() : from;
    }

    /** All that is not in the face is private, and no private method bears a public one's name. */
    private static void members(Class<?> type) {
        TreeSet<String> names = new TreeSet<>();
        for (String head : FACE) {
            names.add(head.substring(head.indexOf(' ') + 1, head.indexOf('(')));
        }
        for (Field field : type.getDeclaredFields()) {
            int m = field.getModifiers();
            check.due(field + " is private or the face's", Modifier.isPrivate(m) || Modifier.isPublic(m));
        }
        for (Method method : type.getDeclaredMethods()) {
            int m = method.getModifiers();
            check.due(method + " is private or the face's", Modifier.isPrivate(m) || Modifier.isPublic(m));
            check.due(method + " has its own name", Modifier.isPublic(m) || !names.contains(method.getName()));
        }
    }

    private static void nested() {
        Class<?>[] inside = ShadowSpans.class.getDeclaredClasses();
        check.due("at most twelve classes", inside.length < 12);
        for (Class<?> type : inside) {
            check.due(type + " is static", Modifier.isStatic(type.getModifiers()));
            check.due(type + " is not public", !Modifier.isPublic(type.getModifiers()));
            int own = 0;
            for (Field field : type.getDeclaredFields()) {
                int m = field.getModifiers();
                check.due(field + " is no static state", !Modifier.isStatic(m) || Modifier.isFinal(m));
                own += Modifier.isStatic(m) ? 0 : 1;
            }
            check.due(type + " has few fields", own <= 20);
            for (Method method : type.getDeclaredMethods()) {
                check.due(method + " takes at most seven", method.getParameterCount() <= 7);
            }
        }
    }

    private static void text(String source) {
        check.due("signs of 1 to 127", source.chars().allMatch(c -> c > 0 && c < 128));
        String code = source.replaceAll("(?s)/\\*.*?\\*/", " ").replaceAll("//[^\n]*", " ");
        for (String word : BANNED) {
            boolean isWord = Character.isLetter(word.charAt(0)) && !word.equals("Exact");
            Matcher matcher = Pattern.compile(isWord ? "\\b" + Pattern.quote(word) + "\\b" : Pattern.quote(word))
                .matcher(code);
            check.due("the text is without " + word, !matcher.find());
        }
    }
}
