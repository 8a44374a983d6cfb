import java.io.IOException;
import java.nio.file.Files;
import java.nio.file.Path;
import java.util.ArrayList;
import java.util.HashMap;
import java.util.HashSet;
import java.util.List;
import java.util.Map;
import java.util.Set;
import java.util.TreeMap;
import java.util.regex.Matcher;
import java.util.regex.Pattern;

/** Rule 11 of ../shared/LANGUAGE.md: calls go at most eight deep; none here is a recursion. */
public final class DepthTest {
    private static final int MOST = 8;
    private static final String OUTER = "ReadAge";
    private static final Pattern CLASS = Pattern.compile("\\bclass (\\w+) \\{$");
    private static final Pattern METHOD = Pattern.compile(
            "^( {4}| {8})(?:public )?(?:private )?(?:static )?(?:[\\w\\[\\]]+ )?(\\w+)\\([^)]*\\) \\{$");
    private static final Pattern CALLED = Pattern.compile("(?:(\\w+)\\.)?\\b(\\w+)\\(");

    /** The calls in each method's body, both told as Class.method. */
    private final Map<String, Set<String>> calls = new TreeMap<>();
    private final Map<String, Integer> depths = new HashMap<>();
    private final Due due = new Due().in("LANGUAGE.md");

    private static String classOf(String field) {
        return field.substring(0, 1).toUpperCase() + field.substring(1);
    }

    private void readBodies(String[] lines, boolean named) {
        String in = OUTER;
        String method = null;
        String end = "";
        for (String line : lines) {
            Matcher type = CLASS.matcher(line);
            Matcher head = METHOD.matcher(line);
            if (type.find()) {
                in = type.group(1);
            } else if (head.find()) {
                method = in + "." + head.group(2);
                end = head.group(1) + "}";
                calls.computeIfAbsent(method, none -> new HashSet<>());
            } else if (method != null && line.equals(end)) {
                method = null;
            } else if (method != null && named) {
                readCalls(method, in, line);
            }
        }
    }

    private void readCalls(String method, String in, String line) {
        Matcher called = CALLED.matcher(line);
        while (called.find()) {
            String of = called.group(1);
            String name = called.group(2);
            boolean isBare = of == null || of.equals("this");
            String owner = isBare ? in : classOf(of);
            if (isBare && !calls.containsKey(in + "." + name)) {
                owner = calls.containsKey(OUTER + "." + name) ? OUTER : name;
            }
            String target = owner.equals(name) ? name + "." + name : owner + "." + name;
            if (calls.containsKey(target)) {
                calls.get(method).add(target);
            } else {
                due.is(method + " calls a method that is known: " + target,
                        isBare ? line.contains("new ") || name.matches("if|for|while|switch|return") : isOfLibrary(target), true);
            }
        }
    }

    private static boolean isOfLibrary(String target) {
        return target.matches("Math\\.(max|min)|System\\.arraycopy");
    }

    private int depth(String method, List<String> open) {
        due.is("a recursion by " + open + " to " + method, open.contains(method), false);
        if (open.contains(method)) {
            return 0;
        }
        if (!depths.containsKey(method)) {
            List<String> now = new ArrayList<>(open);
            now.add(method);
            int deepest = 0;
            for (String called : calls.get(method)) {
                deepest = Math.max(deepest, depth(called, now));
            }
            depths.put(method, deepest + 1);
        }
        return depths.get(method);
    }

    public static void main(String[] args) throws IOException {
        DepthTest test = new DepthTest();
        String source = Files.readString(Path.of("src/main/java/ReadAge.java"));
        String[] lines = source.replaceAll("(?s)/\\*.*?\\*/", "").replaceAll(" *//[^\n]*", "").split("\n");
        test.readBodies(lines, false);
        test.readBodies(lines, true);
        int deepest = 0;
        for (String method : test.calls.keySet()) {
            int depth = test.depth(method, new ArrayList<>());
            test.due.is(method + " goes at most " + MOST + " deep", depth <= MOST, true);
            deepest = Math.max(deepest, depth);
            if (args.length > 0) {
                System.out.println(depth + " " + method + " " + test.calls.get(method));
            }
        }
        test.due.is("the calls were read", test.calls.size() > 90 && deepest > 4, true);
        Due.end(test.due);
    }
}
