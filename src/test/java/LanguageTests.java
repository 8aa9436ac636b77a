import java.io.IOException;
import java.lang.reflect.Field;
import java.lang.reflect.Method;
import java.lang.reflect.Modifier;
import java.nio.file.Files;
import java.nio.file.Path;
import java.util.Set;
import java.util.TreeSet;
import java.util.regex.Matcher;
import java.util.regex.Pattern;

/** The rules of LANGUAGE.md that can be looked up in the source and in the class. */
public final class LanguageTests {
    private static final Path SOURCE = Path.of("src/main/java/NoGraveEnemy.java");
    private static final String FACE = "of one hate between die row feed parish told pass on handful orders see hates can "
        + "odds mean plan ends book looked judge image undo act trace taken count tape item read shift";

    private LanguageTests() {
    }

    public static void main(String[] args) throws IOException {
        String whole = Files.readString(SOURCE);
        String code = withoutComments(whole);
        words(code);
        library(code);
        made(code);
        signs(whole);
        new SourceMethods(code).look();
        face();
        classes();
        Due.end();
    }

    /** Each use of a class of the library is one that LANGUAGE.md names. */
    private static void library(String code) {
        Set<String> named = Set.of("Long.MIN_VALUE", "Integer.bitCount", "Math.floorMod", "Math.max", "Math.min",
            "System.arraycopy");
        Matcher uses = Pattern.compile("\\b(?:Integer|Long|Math|System|Arrays|Character|Boolean|Byte|Short|List|Objects)"
            + "\\s*\\.\\s*\\w+").matcher(code);
        while (uses.find()) {
            Due.due("LANGUAGE 4: " + uses.group(), named.contains(uses.group()) ? 1 : 0, 1);
        }
        Due.due("LANGUAGE 4: Long.MIN_VALUE beside NO", found(code, "Long\\.MIN_VALUE"), 1);
    }

    /** What is made is made with the object itself: by its fields, and by its constructor's two loops. */
    private static void made(String code) {
        for (String line : code.split("\n")) {
            if (found(line, "\\bnew\\b") > 0) {
                boolean isField = line.matches(" +private (static )?(final )?\\S+ \\w+ = new .*;");
                boolean isConstructors = line.matches(" {12}(parishes|tapes)\\[n\\] = new \\w+\\(\\);");
                Due.due("LANGUAGE 12: " + line.strip(), isField || isConstructors ? 1 : 0, 1);
            }
        }
        Due.due("LANGUAGE 12: copies of arrays", found(code, "\\bclone\\b|copyOf\\b|copyOfRange\\b|toCharArray\\b"), 0);
        Due.due("LANGUAGE 12: texts", found(code, "StringBuilder|substring"), 0);
    }

    private static String withoutComments(String source) {
        return source.replaceAll("(?s)/\\*.*?\\*/", " ").replaceAll("//[^\n]*", " ").replaceAll("\"[^\"\n]*\"", "\"\"");
    }

    private static int found(String code, String pattern) {
        Matcher matcher = Pattern.compile(pattern).matcher(code);
        int found = 0;
        while (matcher.find()) {
            found++;
        }
        return found;
    }

    private static void words(String code) {
        for (String word : new String[] {
            "throw", "throws", "try", "catch", "finally", "synchronized", "assert", "import", "package", "native",
            "volatile", "var", "float", "double", "Exception", "hashCode", "toString", "random", "currentTimeMillis",
            "nanoTime", "File", "Thread", "getenv", "getProperty"}) {
            Due.due("LANGUAGE: the word " + word, found(code, "\\b" + word + "\\b"), 0);
        }
        Due.due("LANGUAGE 2: a lambda", found(code, "->"), 0);
        Due.due("LANGUAGE 2: a method reference", found(code, "::"), 0);
        Due.due("LANGUAGE 4: ..Exact", found(code, "Exact\\b"), 0);
        Due.due("LANGUAGE 5: a static block", found(code, "\\bstatic\\s*\\{"), 0);
        Due.due("LANGUAGE 10: texts joined by +", found(code, "\"\\s*\\+|\\+\\s*\""), 0);
        Due.due("LANGUAGE 2: a class that is not static", found(code, "(?<!static final |public final )class "), 0);
    }

    private static void signs(String whole) {
        Due.due("LANGUAGE 4: signs beyond 127", whole.chars().filter(c -> c > 126 || c < 32 && c != '\n').count(), 0);
        Due.due("lines beyond 120", whole.lines().filter(line -> line.length() > 120).count(), 0);
    }

    private static void face() {
        Set<String> names = new TreeSet<>(Set.of(FACE.split(" ")));
        Set<String> own = new TreeSet<>();
        for (Method method : NoGraveEnemy.class.getDeclaredMethods()) {
            if (Modifier.isPublic(method.getModifiers())) {
                own.add(method.getName());
            } else {
                Due.due("LANGUAGE 1: private " + method.getName(), Modifier.isPrivate(method.getModifiers()) ? 1 : 0, 1);
                Due.due("LANGUAGE 1: name of " + method.getName(), names.contains(method.getName()) ? 1 : 0, 0);
            }
            Due.due("LANGUAGE 11: parameters of " + method.getName(), method.getParameterCount() <= 7 ? 1 : 0, 1);
        }
        Due.due("the face: " + own, own.equals(names) ? 1 : 0, 1);
        Due.due("final", Modifier.isFinal(NoGraveEnemy.class.getModifiers()) ? 1 : 0, 1);
        Due.due("constructors", NoGraveEnemy.class.getDeclaredConstructors().length, 1);
    }

    private static void classes() {
        Class<?>[] inside = NoGraveEnemy.class.getDeclaredClasses();
        Due.due("LANGUAGE 11: classes", inside.length < 12 ? 1 : 0, 1);
        Set<String> names = Set.of(FACE.split(" "));
        for (Class<?> one : inside) {
            Due.due("LANGUAGE 2: static " + one, Modifier.isStatic(one.getModifiers()) ? 1 : 0, 1);
            for (Method method : one.getDeclaredMethods()) {
                Due.due("LANGUAGE 1: name of " + method.getName(), names.contains(method.getName()) ? 1 : 0, 0);
                Due.due("LANGUAGE 11: parameters of " + method, method.getParameterCount() <= 7 ? 1 : 0, 1);
            }
            fields(one);
        }
        fields(NoGraveEnemy.class);
    }

    private static void fields(Class<?> one) {
        int own = 0;
        for (Field field : one.getDeclaredFields()) {
            boolean isStatic = Modifier.isStatic(field.getModifiers());
            own += isStatic ? 0 : 1;
            boolean isFinal = Modifier.isFinal(field.getModifiers());
            Due.due("LANGUAGE 5: static " + field.getName(), isStatic && !isFinal ? 1 : 0, 0);
            boolean isConstant = one == NoGraveEnemy.class && Modifier.isPublic(field.getModifiers());
            boolean isPrivate = Modifier.isPrivate(field.getModifiers());
            Due.due("LANGUAGE 1: " + field.getName(), isPrivate || isConstant && isStatic ? 1 : 0, 1);
        }
        Due.due("LANGUAGE 11: fields of " + one, own <= 20 ? 1 : 0, 1);
    }
}
