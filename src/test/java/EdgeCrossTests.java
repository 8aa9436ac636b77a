import java.lang.reflect.InvocationTargetException;
import java.lang.reflect.Method;
import java.util.Arrays;

/** Each call with the numbers at its edges, each with each, answered alike by the class and by the Model. */
public final class EdgeCrossTests {
    private static final long TOP = Integer.MAX_VALUE;
    private static final long LOW = Integer.MIN_VALUE;
    /** An object takes no more than 512; a scene is told by less than half of them. */
    private static final int CALLS = 250;

    /** Each call, and of which numbers each of its parts is. */
    private static final String[] FACE = {
        "one kind v", "of person what", "hate person person hate", "between person person what", "die person is",
        "row person part v", "feed sign", "parish", "told what", "pass days", "on month number", "handful number",
        "orders what", "see person person days is", "hates person person what", "can person what",
        "odds person what", "mean what", "plan what person", "ends what", "book person person hate", "looked",
        "judge tape place", "image", "undo", "act person what x", "trace place", "taken person kind", "count what",
        "tape tape sort size", "item tape place v64", "read tape place", "shift tape place tape place size"
    };

    private static final String[] NOBODY = {};

    private static final String[] SOME = {
        "one 6 3", "one 5 4", "one 4 1", "one 1 2", "hate 0 1 50", "hate 1 2 45", "hate 2 3 61", "hate 3 0 34",
        "hate 1 0 99", "hate 0 3 30", "row 0 1 9", "die 2 1", "pass 2", "see 0 1 3 1", "see 1 0 20 0", "plan 1 3",
        "plan 0 0", "plan 2 1", "book 0 1 50", "book 1 2 7", "tape 0 0 4", "tape 1 4 5", "tape 2 2 60", "tape 3 3 0",
        "tape 4 4 5", "item 0 1 77", "item 1 2 1", "item 2 59 5", "die 1 1", "image", "act 0 2 7", "feed 110"
    };

    private static final String[] FULL = {
        "one 0 9", "one 1 8", "one 2 7", "one 3 6", "one 4 5", "one 6 4", "hate 0 5 99", "hate 5 0 98", "hate 2 1 70",
        "hate 1 2 60", "hate 3 4 50", "hate 4 3 40", "die 0 1", "die 3 1", "see 5 0 1 1", "see 5 0 2 1", "see 0 5 3 1",
        "see 1 2 4 0", "see 3 4 5 1", "plan 0 0", "plan 1 1", "plan 0 0", "plan 1 2", "plan 0 0", "plan 1 4",
        "plan 0 0", "plan 2 5", "plan 3 5", "plan 0 0", "book 0 5 99", "book 5 0 98", "book 2 1 70", "book 1 2 60",
        "book 3 4 50", "book 4 3 40", "book 1 0 0", "book 0 1 1", "tape 0 4 60", "tape 5 4 6", "item 5 0 1",
        "item 5 3 1", "item 0 54 1", "image"
    };

    private final String name;
    private final String[] scene;
    private NoGraveEnemy x;
    private Model y;
    private int calls = CALLS;

    private EdgeCrossTests(String name, String[] scene) {
        this.name = name;
        this.scene = scene;
    }

    public static void main(String[] args) throws ReflectiveOperationException {
        new EdgeCrossTests("nobody", NOBODY).cross();
        new EdgeCrossTests("some", SOME).cross();
        new EdgeCrossTests("full", FULL).cross();
        Due.end();
    }

    private static long[] numbers(String of) {
        switch (of) {
            case "kind":
            case "what":
                return new long[] {LOW, -2, -1, 0, 1, 2, 3, 4, 5, 6, 7, 8, TOP};
            case "v":
                return new long[] {LOW, -1, 0, 9, 10, TOP};
            case "person":
                return new long[] {LOW, -2, -1, 0, 1, 3, 4, 5, 6, TOP};
            case "hate":
                return new long[] {LOW, -1, 0, 99, 100, TOP};
            case "part":
                return new long[] {LOW, -1, 0, 3, 4, TOP};
            case "sign":
                return new long[] {LOW, -1, 0, 127, 128, TOP};
            case "days":
                return new long[] {LOW, -1, 0, 1, 20, 21, 60, 61, TOP};
            case "month":
                return new long[] {LOW, -1, 0, 1, 2, 30, 31, TOP};
            default:
                return moreNumbers(of);
        }
    }

    private static long[] moreNumbers(String of) {
        switch (of) {
            case "number":
                long[] numbers = new long[100];
                for (int n = 0; n < 100; n++) {
                    numbers[n] = n < 80 ? n - 10 : n < 90 ? LOW + (n - 80) * 7 : TOP - (n - 90) * 7;
                }
                return numbers;
            case "is":
                return new long[] {0, 1};
            case "tape":
                return new long[] {LOW, -1, 0, 1, 4, 5, 6, TOP};
            case "place":
                return new long[] {LOW, -1, 0, 1, 4, 5, 6, 54, 55, 59, 60, TOP};
            case "sort":
                return new long[] {LOW, -2, -1, 0, 1, 2, 3, 4, 5, TOP};
            case "size":
                return new long[] {LOW, -1, 0, 1, 5, 60, 61, TOP};
            case "x":
                return new long[] {LOW, -1, 0, 1, TOP};
            case "v64":
                return new long[] {Long.MIN_VALUE, -129, -1, 0, 2, 128, 65535, 1L << 31, 1L << 32, Long.MAX_VALUE};
            default:
                throw new IllegalArgumentException(of);
        }
    }

    private void cross() throws ReflectiveOperationException {
        for (String call : FACE) {
            String[] parts = call.split(" ");
            calls = CALLS;
            crossFrom(parts, 1, new long[parts.length - 1]);
        }
    }

    private void crossFrom(String[] parts, int part, long[] args) throws ReflectiveOperationException {
        if (part == parts.length) {
            if (calls >= CALLS) {
                begin();
            }
            calls++;
            both(parts[0], args);
            return;
        }
        for (long number : numbers(parts[part])) {
            args[part - 1] = number;
            crossFrom(parts, part + 1, args);
        }
    }

    private void begin() throws ReflectiveOperationException {
        x = new NoGraveEnemy();
        y = new Model();
        calls = 0;
        for (String told : scene) {
            String[] parts = told.split(" ");
            long[] args = new long[parts.length - 1];
            for (int n = 0; n < args.length; n++) {
                args[n] = Long.parseLong(parts[n + 1]);
            }
            both(parts[0], args);
        }
    }

    private void both(String call, long[] args) throws ReflectiveOperationException {
        Object[] told = new Object[args.length];
        Class<?>[] types = new Class<?>[0];
        for (Method method : NoGraveEnemy.class.getMethods()) {
            types = method.getName().equals(call) ? method.getParameterTypes() : types;
        }
        for (int n = 0; n < args.length; n++) {
            told[n] = types[n] == boolean.class ? (Object) (args[n] != 0)
                : types[n] == long.class ? (Object) args[n] : (Object) (int) args[n];
        }
        long got = answer(NoGraveEnemy.class.getDeclaredMethod(call, types), x, told);
        long want = answer(Model.class.getDeclaredMethod(call, types), y, told);
        Due.due(name + ": " + call + " " + Arrays.toString(args), got, want);
    }

    /** What throws answers nothing that is ever due. */
    private static long answer(Method call, Object of, Object[] told) throws IllegalAccessException {
        try {
            return ((Number) call.invoke(of, told)).longValue();
        } catch (InvocationTargetException e) {
            return Long.MAX_VALUE - (of instanceof Model ? 1 : 2);
        }
    }
}
