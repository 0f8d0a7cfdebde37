import java.io.IOException;
import java.lang.reflect.Constructor;
import java.lang.reflect.Field;
import java.lang.reflect.Method;
import java.lang.reflect.Modifier;
import java.nio.file.Files;
import java.nio.file.Path;
import java.util.ArrayList;
import java.util.List;
import java.util.TreeSet;
import java.util.regex.Matcher;
import java.util.regex.Pattern;

/** The face of the document, and those rules of LANGUAGE.md that can be seen from the outside or in the text. */
public final class LanguageTests {
    private static final String FACE = "feed(int,int)int place()int cell(int,int,int,int)int mend(int,int,int,int)int"
        + " law()int force(int)int sky(int,int)int rise(int,int)int person(int,int)int set(int,int,int)int"
        + " of(int,int)int margin(int,int,int,int)int over(int,int,int)int order(int,int,int)int best(int,int,int)int"
        + " gusts(int,int,int,int,int)int await(int,int)int mustNot(int)int midst(int,int,int,int)int line(int,int)int"
        + " wall(int,int)int roped(int,int,int)int stick(int,int)int notch(int,int)int notches(int,int,int)int"
        + " off(int)int fit()int undo()int redo()int body(int)int act(int,int,int)int trace(int)int keep(int,int)int"
        + " row(int,int,int)int put(int,int,long)int element(int,int)long shift(int,int,int,int,int)int"
        + " taken(int,int)int count(int)int";
    private static final List<String> FACE_NAMES = List.of(FACE.replaceAll("\\(.*?\\)\\w+", "").split(" "));
    private static final String SOURCE = "src/main/java/AcrossOnFoot.java";
    private static final String[] FORBIDDEN = {
        "throw", "throws", "try", "catch", "finally", "synchronized", "assert", "->", "::", "public static int",
        "hashCode", "equals", "toString", "Exact", "random", "System\\.(?!arraycopy)", "Thread", "native", "volatile",
        "new \\w+[<\\w>]*\\([^;{]*\\)\\s*\\{", "import (?!java\\.util\\.(Arrays|ArrayList|List);)", "static \\{",
        "while \\(true\\)", "for \\(;;\\)", "\\bdouble\\b", "\\bfloat\\b", "\"",
    };

    private LanguageTests() {
    }

    public static void main(String[] args) throws IOException {
        face();
        nested();
        text();
        Due.end();
    }

    private static void face() {
        TreeSet<String> publicNames = new TreeSet<>();
        TreeSet<String> found = new TreeSet<>();
        for (Method m : AcrossOnFoot.class.getDeclaredMethods()) {
            if (!Modifier.isPrivate(m.getModifiers())) {
                found.add(signature(m));
                publicNames.add(m.getName());
                Due.holds(m + " is public and of the object", m.getModifiers() == Modifier.PUBLIC);
            }
        }
        for (Method m : AcrossOnFoot.class.getDeclaredMethods()) {
            boolean hidden = Modifier.isPrivate(m.getModifiers());
            Due.holds(m + " does not bear a public one's name", !hidden || !publicNames.contains(m.getName()));
        }
        Due.holds("the methods are those of the face", found.equals(new TreeSet<>(List.of(FACE.split(" ")))));
        Constructor<?>[] made = AcrossOnFoot.class.getDeclaredConstructors();
        Due.holds("one public constructor", made.length == 1 && Modifier.isPublic(made[0].getModifiers())
            && made[0].getParameterCount() == 0);
        TreeSet<String> constants = new TreeSet<>();
        for (Field f : AcrossOnFoot.class.getDeclaredFields()) {
            if (!Modifier.isPrivate(f.getModifiers())) {
                constants.add(f.getName());
                Due.holds(f + " is a constant", Modifier.toString(f.getModifiers()).equals("public static final")
                    && f.getType() == int.class);
            }
        }
        Due.holds("the constants", constants.equals(new TreeSet<>(List.of("BAD", "NOT", "FULL", "STATE", "VOID"))));
        Due.holds("the class is public and final",
            AcrossOnFoot.class.getModifiers() == (Modifier.PUBLIC | Modifier.FINAL));
    }

    private static String signature(Method m) {
        List<String> types = new ArrayList<>();
        for (Class<?> type : m.getParameterTypes()) {
            types.add(type.getName());
        }
        return m.getName() + "(" + String.join(",", types) + ")" + m.getReturnType().getName();
    }

    private static void nested() {
        Class<?>[] inside = AcrossOnFoot.class.getDeclaredClasses();
        Due.holds("some twelve classes", inside.length <= 12);
        for (Class<?> c : inside) {
            Due.holds(c + " is static", Modifier.isStatic(c.getModifiers()));
            Due.holds(c + " is not public", !Modifier.isPublic(c.getModifiers()));
            int fields = 0;
            for (Field f : c.getDeclaredFields()) {
                boolean isStatic = Modifier.isStatic(f.getModifiers());
                fields += isStatic ? 0 : 1;
                Due.holds(f + " is final, if it is static", !isStatic || Modifier.isFinal(f.getModifiers()));
            }
            Due.holds(c + " has some twenty fields", fields <= 20);
            for (Method m : c.getDeclaredMethods()) {
                Due.holds(m + " has seven parameters at most", m.getParameterCount() <= 7);
                boolean hidden = Modifier.isPrivate(m.getModifiers());
                Due.holds(m + " does not bear a public one's name", !hidden || !FACE_NAMES.contains(m.getName()));
            }
        }
    }

    private static void text() throws IOException {
        String source = Files.readString(Path.of(SOURCE)).replaceAll("(?s)/\\*.*?\\*/|//[^\n]*", "");
        for (String word : FORBIDDEN) {
            String pattern = Character.isLetter(word.charAt(0)) ? "\\b" + word : word;
            pattern = word.matches("[a-z]+") ? pattern + "\\b" : pattern;
            Matcher m = Pattern.compile(pattern).matcher(source);
            Due.holds("without " + word, !m.find());
        }
        int lines = 0;
        for (String line : source.split("\n")) {
            lines = line.matches("    ( {4})?}") ? 0 : lines + 1;
            Due.holds("methods are short: " + line, lines <= 80 || line.matches(".*class .*|"));
            Due.holds("signs are 1 to 127: " + line, line.chars().allMatch(sign -> sign > 0 && sign < 128));
        }
    }
}
