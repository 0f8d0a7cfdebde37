import java.io.IOException;
import java.lang.reflect.Method;
import java.lang.reflect.Modifier;
import java.nio.file.Files;
import java.nio.file.Path;
import java.util.TreeSet;
import java.util.regex.Matcher;
import java.util.regex.Pattern;

/** README.md's example: each call answers what stands behind it there, and every call of the face is shown. */
public final class ReadmeTests {
    private static final Pattern BLOCK = Pattern.compile("```java\n(.*?)```", Pattern.DOTALL);
    private static final Pattern FED = Pattern.compile("feed\\(x, \"([^\"]*)\"\\);");
    private static final Pattern CALLED = Pattern.compile("x\\.(\\w+)\\(([-0-9, ]*)\\); +// ([-.\\w]+)(: .*)?");
    private static final String NEW = "AcrossOnFoot x = new AcrossOnFoot();";

    private final AcrossOnFoot x = new AcrossOnFoot();
    private final TreeSet<String> shown = new TreeSet<>();

    private ReadmeTests() {
    }

    public static void main(String[] args) throws IOException, ReflectiveOperationException {
        ReadmeTests tests = new ReadmeTests();
        Matcher block = BLOCK.matcher(Files.readString(Path.of("README.md")));
        while (block.find()) {
            if (!block.group(1).startsWith("static void feed")) {
                for (String line : block.group(1).split("\n")) {
                    tests.follow(line);
                }
            }
        }
        for (Method m : AcrossOnFoot.class.getDeclaredMethods()) {
            boolean hidden = !Modifier.isPublic(m.getModifiers());
            Due.holds("README.md shows " + m.getName(), hidden || tests.shown.contains(m.getName()));
        }
        Due.end();
    }

    private void follow(String line) throws ReflectiveOperationException {
        Matcher fed = FED.matcher(line);
        Matcher called = CALLED.matcher(line);
        if (fed.matches()) {
            Due.feed(x, fed.group(1));
        } else if (called.matches()) {
            shown.add(called.group(1));
            Due.is("README.md: " + line, answer(called.group(1), called.group(2)), due(called.group(3)));
        } else {
            Due.holds("README.md: can be followed: " + line, line.equals(NEW));
        }
    }

    private long answer(String name, String numbers) throws ReflectiveOperationException {
        String[] texts = numbers.isEmpty() ? new String[0] : numbers.split(", ");
        for (Method m : AcrossOnFoot.class.getDeclaredMethods()) {
            if (Modifier.isPublic(m.getModifiers()) && m.getName().equals(name)) {
                Class<?>[] types = m.getParameterTypes();
                Object[] given = new Object[texts.length];
                for (int k = 0; k < given.length; k++) {
                    boolean isLong = k < types.length && types[k] == long.class;
                    given[k] = isLong ? (Object) Long.valueOf(texts[k]) : Integer.valueOf(texts[k]);
                }
                return ((Number) m.invoke(x, given)).longValue();
            }
        }
        throw new NoSuchMethodException(name);
    }

    private static long due(String told) throws ReflectiveOperationException {
        if (told.equals("Long.MIN_VALUE")) {
            return Long.MIN_VALUE;
        }
        boolean isNumber = told.matches("-?\\d+");
        return isNumber ? Long.parseLong(told) : AcrossOnFoot.class.getField(told).getInt(null);
    }
}
