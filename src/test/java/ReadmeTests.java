import java.io.IOException;
import java.lang.reflect.Method;
import java.lang.reflect.Modifier;
import java.nio.file.Files;
import java.nio.file.Path;
import java.util.Set;
import java.util.TreeSet;
import java.util.regex.Matcher;
import java.util.regex.Pattern;

/** Each call that README.md shows answers what README.md tells behind it; each call of the face is named there. */
public final class ReadmeTests {
    private static final Path README = Path.of("README.md");
    private static final String NEW = "NoGraveEnemy x = new NoGraveEnemy();";
    private static final Pattern FEED =
        Pattern.compile("for \\(char sign : \"(.*)\"\\.toCharArray\\(\\)\\) \\{ x\\.feed\\(sign\\); }");
    private static final Pattern CALL = Pattern.compile("x\\.(\\w+)\\(([^)]*)\\); +// (-?\\d+|NO)(:.*)?");

    private NoGraveEnemy x;
    private int calls;

    private ReadmeTests() {
    }

    public static void main(String[] args) throws IOException, ReflectiveOperationException {
        String readme = Files.readString(README);
        new ReadmeTests().run(readme);
        for (Method method : NoGraveEnemy.class.getDeclaredMethods()) {
            boolean isCall = Modifier.isPublic(method.getModifiers());
            boolean isNamed = readme.contains("`" + method.getName() + "`");
            Due.due("README names " + method.getName(), !isCall || isNamed ? 1 : 0, 1);
        }
        tests(readme);
        Due.end();
    }

    private void run(String readme) throws ReflectiveOperationException {
        boolean isCode = false;
        for (String line : readme.split("\n")) {
            if (line.startsWith("```")) {
                isCode = line.equals("```java");
            } else if (isCode) {
                line(line);
            }
        }
        Due.due("README shows calls", calls > 30 ? 1 : 0, 1);
    }

    private void line(String line) throws ReflectiveOperationException {
        Matcher feed = FEED.matcher(line);
        Matcher call = CALL.matcher(line);
        if (line.equals(NEW)) {
            x = new NoGraveEnemy();
        } else if (feed.matches()) {
            Due.feed(x, feed.group(1));
        } else {
            Due.due("README's line can be run: " + line, call.matches() ? 1 : 0, 1);
            if (call.matches()) {
                calls++;
                long want = call.group(3).equals("NO") ? NoGraveEnemy.NO : Long.parseLong(call.group(3));
                Due.due("README: " + line, answer(call.group(1), call.group(2).split(", ")), want);
            }
        }
    }

    private long answer(String name, String[] words) throws ReflectiveOperationException {
        for (Method method : NoGraveEnemy.class.getDeclaredMethods()) {
            if (method.getName().equals(name)) {
                Class<?>[] sorts = method.getParameterTypes();
                Object[] values = new Object[sorts.length];
                for (int n = 0; n < sorts.length; n++) {
                    values[n] = value(sorts[n], words[n]);
                }
                return ((Number) method.invoke(x, values)).longValue();
            }
        }
        throw new IllegalArgumentException("no call " + name);
    }

    private static Object value(Class<?> sort, String word) {
        if (sort == boolean.class) {
            return Boolean.valueOf(word);
        }
        return sort == long.class ? (Object) Long.valueOf(word) : (Object) Integer.valueOf(word);
    }

    /** Each file that bears a main method is told of, and none that is not there. */
    private static void tests(String readme) throws IOException {
        Set<String> told = new TreeSet<>();
        Matcher names = Pattern.compile("`(\\w+Tests)`").matcher(readme);
        while (names.find()) {
            told.add(names.group(1));
        }
        Set<String> there = new TreeSet<>();
        try (var files = Files.list(Path.of("src/test/java"))) {
            files.map(file -> file.getFileName().toString()).filter(name -> name.endsWith("Tests.java"))
                .forEach(name -> there.add(name.substring(0, name.length() - ".java".length())));
        }
        Due.due("README tells of the tests " + told + ", there are " + there, told.equals(there) ? 1 : 0, 1);
    }
}
