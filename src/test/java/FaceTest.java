import java.io.IOException;
import java.lang.reflect.Constructor;
import java.lang.reflect.Field;
import java.lang.reflect.Method;
import java.lang.reflect.Modifier;
import java.nio.file.Files;
import java.nio.file.Path;
import java.util.ArrayList;
import java.util.Arrays;
import java.util.List;
import java.util.TreeSet;
import java.util.regex.Matcher;
import java.util.regex.Pattern;

/** The public face, and those rules of LANGUAGE.md that can be seen from the class or its text. */
public final class FaceTest {
    private static final Check check = new Check();
    private static final String[] FACE = {
        "int letter(int)", "int blank()", "int fault()", "int report()", "int drop(int)", "int error(int,int)",
        "int speed(int)", "int station(int,int)", "int at(int)", "int fits()", "int wrong()", "int kernel(int)",
        "int corner(int,int)", "int holds(int,int,int)", "int reach(int,int,int)", "int lasts(int,int)",
        "int count(int)", "long digest()"};
    private static final String[] BANNED = {
        "throw", "throws", "try", "catch", "finally", "synchronized", "assert", "import", "package", "volatile",
        "native", "var", "yield", "System.out", "Exact", "->", "::", "double", "float"};

    public static void main(String[] args) throws IOException {
        constants();
        methods();
        members(ShadowSpans.class);
        nested();
        text();
        check.end("FaceTest");
    }

    private static void constants() {
        check.due("NONE", ShadowSpans.NONE, -100000001);
        check.due("UNKNOWN", ShadowSpans.UNKNOWN, -100000002);
        check.due("OUTSIDE", ShadowSpans.OUTSIDE, -100000003);
        check.due("STATE", ShadowSpans.STATE, -100000004);
        check.due("FULL", ShadowSpans.FULL, -100000005);
        check.due("OUT", ShadowSpans.OUT, -100000006);
        check.due("public fields", ShadowSpans.class.getFields().length, 6);
    }

    private static void methods() {
        TreeSet<String> found = new TreeSet<>();
        for (Method method : ShadowSpans.class.getDeclaredMethods()) {
            if (Modifier.isPublic(method.getModifiers())) {
                List<String> types = new ArrayList<>();
                for (Class<?> type : method.getParameterTypes()) {
                    types.add(type.getSimpleName());
                }
                found.add(method.getReturnType().getSimpleName() + " " + method.getName()
                    + "(" + String.join(",", types) + ")");
            }
        }
        check.due("the face " + found, found.equals(new TreeSet<>(Arrays.asList(FACE))));
        Constructor<?>[] constructors = ShadowSpans.class.getDeclaredConstructors();
        check.due("constructors", constructors.length, 1);
        check.due("a public constructor without arguments", Modifier.isPublic(constructors[0].getModifiers())
            && constructors[0].getParameterCount() == 0);
        check.due("public and final", Modifier.isPublic(ShadowSpans.class.getModifiers())
            && Modifier.isFinal(ShadowSpans.class.getModifiers()));
    }

    /** All that is not in the face is private, and no private method bears a public one's name. */
    private static void members(Class<?> type) {
        TreeSet<String> names = new TreeSet<>();
        for (String head : FACE) {
            names.add(head.substring(head.indexOf(' ') + 1, head.indexOf('(')));
        }
        for (Field field : type.getDeclaredFields()) {
            int m = field.getModifiers();
            check.due(field + " is private or the face's", Modifier.isPrivate(m) || Modifier.isPublic(m));
        }
        for (Method method : type.getDeclaredMethods()) {
            int m = method.getModifiers();
            check.due(method + " is private or the face's", Modifier.isPrivate(m) || Modifier.isPublic(m));
            check.due(method + " has its own name", Modifier.isPublic(m) || !names.contains(method.getName()));
        }
    }

    private static void nested() {
        Class<?>[] inside = ShadowSpans.class.getDeclaredClasses();
        check.due("at most twelve classes", inside.length < 12);
        for (Class<?> type : inside) {
            check.due(type + " is static", Modifier.isStatic(type.getModifiers()));
            check.due(type + " is not public", !Modifier.isPublic(type.getModifiers()));
            int own = 0;
            for (Field field : type.getDeclaredFields()) {
                int m = field.getModifiers();
                check.due(field + " is no static state", !Modifier.isStatic(m) || Modifier.isFinal(m));
                own += Modifier.isStatic(m) ? 0 : 1;
            }
            check.due(type + " has few fields", own <= 20);
            for (Method method : type.getDeclaredMethods()) {
                check.due(method + " takes at most seven", method.getParameterCount() <= 7);
            }
        }
    }

    private static void text() throws IOException {
        String source = Files.readString(Path.of("src/main/java/ShadowSpans.java"));
        check.due("signs of 1 to 127", source.chars().allMatch(c -> c > 0 && c < 128));
        String code = source.replaceAll("(?s)/\\*.*?\\*/", " ").replaceAll("//[^\n]*", " ");
        for (String word : BANNED) {
            boolean isWord = Character.isLetter(word.charAt(0)) && !word.equals("Exact");
            Matcher matcher = Pattern.compile(isWord ? "\\b" + Pattern.quote(word) + "\\b" : Pattern.quote(word))
                .matcher(code);
            check.due("the text is without " + word, !matcher.find());
        }
    }
}
