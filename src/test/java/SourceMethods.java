import java.util.ArrayList;
import java.util.HashMap;
import java.util.List;
import java.util.Map;
import java.util.TreeSet;
import java.util.Set;
import java.util.TreeMap;
import java.util.regex.Matcher;
import java.util.regex.Pattern;

/** The methods of a source without comments: how long they are, and how deep they call one another. */
final class SourceMethods {
    private static final int MOST_LINES = 60;
    private static final int DEEPEST = 8;
    private static final Pattern HEAD =
        Pattern.compile("^( {4}| {8})(?:public |private |static )*(?:\\w+(?:\\[\\])? )?(\\w+)\\([^()]*\\) \\{$");

    /** Of each name all bodies that bear it, one behind the other: a call may mean any of them. */
    private final Map<String, StringBuilder> bodies = new TreeMap<>();
    private final Map<String, Set<String>> calls = new HashMap<>();
    private final Map<String, Set<String>> reached = new HashMap<>();
    private int methods;

    SourceMethods(String code) {
        List<String> lines = new ArrayList<>(List.of(code.split("\n")));
        for (int n = 0; n < lines.size(); n++) {
            Matcher head = HEAD.matcher(lines.get(n));
            if (head.find()) {
                int end = n + 1;
                while (!lines.get(end).equals(head.group(1) + "}")) {
                    end++;
                }
                Due.due("LANGUAGE 11: lines of " + head.group(2), end - n + 1 <= MOST_LINES ? 1 : 0, 1);
                String body = String.join("\n", lines.subList(n + 1, end)) + "\n";
                bodies.computeIfAbsent(head.group(2), name -> new StringBuilder()).append(body);
                methods++;
            }
        }
        for (String name : bodies.keySet()) {
            calls.put(name, called(bodies.get(name)));
        }
        for (String name : bodies.keySet()) {
            Set<String> all = new TreeSet<>();
            reach(name, all);
            reached.put(name, all);
        }
    }

    private Set<String> called(CharSequence body) {
        Set<String> called = new TreeSet<>();
        Matcher call = Pattern.compile("\\b(\\w+)\\(").matcher(body);
        while (call.find()) {
            if (bodies.containsKey(call.group(1))) {
                called.add(call.group(1));
            }
        }
        return called;
    }

    private void reach(String name, Set<String> all) {
        for (String next : calls.get(name)) {
            if (all.add(next)) {
                reach(next, all);
            }
        }
    }

    /** Those that call one another are one recursion, and one level. */
    private int depth(String name) {
        int deepest = 0;
        for (String together : calls.keySet()) {
            boolean isOne = together.equals(name);
            if (isOne || reached.get(name).contains(together) && reached.get(together).contains(name)) {
                for (String next : calls.get(together)) {
                    if (!reached.get(next).contains(name)) {
                        deepest = Math.max(deepest, depth(next));
                    }
                }
            }
        }
        return deepest + 1;
    }

    void look() {
        Due.due("methods seen in the source", methods > 80 ? 1 : 0, 1);
        for (String name : bodies.keySet()) {
            Due.due("LANGUAGE 11: calls below " + name, depth(name) <= DEEPEST ? 1 : 0, 1);
        }
        Set<String> recursions = new TreeSet<>();
        for (String name : bodies.keySet()) {
            if (reached.get(name).contains(name)) {
                recursions.add(name);
            }
        }
        // copyFrom of a Village calls that of a Table: one name, but no recursion
        Due.due("LANGUAGE 8: recursions " + recursions,
            recursions.equals(Set.of("both", "copyFrom", "either", "factor", "mostFrom", "run")) ? 1 : 0, 1);
    }
}
