import java.io.PrintWriter;
import java.io.StringWriter;
import java.nio.file.Path;
import java.util.ArrayList;
import java.util.Arrays;
import java.util.HashMap;
import java.util.List;
import java.util.Map;
import java.util.Set;
import java.util.TreeMap;
import java.util.TreeSet;
import java.util.regex.Matcher;
import java.util.regex.Pattern;
import java.util.spi.ToolProvider;

/**
 * Rules 4, 6, 8 and 11 of LANGUAGE.md as the compiled class keeps them: what it calls of the library, that nothing in
 * it throws or catches, which of its methods call themselves, and how deep the others go.
 */
public final class CallsTest {
    private static final Due due = new Due("CallsTest");
    private static final int DEPTH_MOST = 8;
    private static final Set<String> LIBRARY = new TreeSet<>(Arrays.asList("java/lang/Object.<init>",
        "java/lang/Math.min", "java/lang/Math.max", "java/lang/Math.abs", "java/lang/Integer.bitCount",
        "java/lang/Integer.numberOfTrailingZeros", "java/lang/Long.bitCount", "java/lang/String.length",
        "java/lang/String.charAt", "java/lang/System.arraycopy", "java/util/Arrays.fill"));
    // a limit of the document on brackets within one another keeps these low
    private static final Set<String> RECURSIVE = new TreeSet<>(Arrays.asList("HandRing$Reader.readTest",
        "HandRing$Reader.readBoth", "HandRing$Reader.readPlain", "HandRing$Reader.readSum",
        "HandRing$Reader.readTerm", "HandRing$Reader.readPart"));

    private final Map<String, Set<String>> calls = new TreeMap<>();
    private final Map<String, Set<String>> below = new HashMap<>();
    private final Map<String, Integer> depths = new HashMap<>();

    public static void main(String[] args) throws Exception {
        String told = disassembled();
        due.part("rule 6");
        due.same("athrow", 0, told.contains("athrow") ? 1 : 0);
        due.same("a table of what is caught", 0, told.contains("Exception table") ? 1 : 0);
        due.same("invokedynamic", 0, told.contains("invokedynamic") ? 1 : 0);
        CallsTest tree = new CallsTest();
        tree.gather(told);
        tree.findBelow();
        tree.recursion();
        tree.depth();
        due.close();
    }

    private static String disassembled() throws Exception {
        Path place = Path.of(HandRing.class.getProtectionDomain().getCodeSource().getLocation().toURI());
        List<String> words = new ArrayList<>(Arrays.asList("-p", "-c", "-cp", place.toString(), "HandRing"));
        for (Class<?> inside : HandRing.class.getDeclaredClasses()) {
            words.add(inside.getName());
        }
        StringWriter told = new StringWriter();
        ToolProvider javap = ToolProvider.findFirst("javap").orElseThrow();
        due.same("javap", 0, javap.run(new PrintWriter(told), new PrintWriter(told), words.toArray(new String[0])));
        return told.toString();
    }

    private void gather(String told) {
        due.part("rule 4");
        Pattern classLine = Pattern.compile("^[\\w ]*class (\\S+) .*\\{$");
        Pattern methodLine = Pattern.compile("^  (?! )(?:.* )?([\\w$]+)\\(.*\\);$");
        Pattern callLine = Pattern.compile("invoke\\w+ .*// \\w*Method (\\S+?):");
        String inClass = "";
        String method = "";
        for (String line : told.split("\n")) {
            Matcher m = classLine.matcher(line);
            if (m.find()) {
                inClass = m.group(1);
                continue;
            }
            m = methodLine.matcher(line);
            if (m.find()) {
                method = inClass + "." + (m.group(1).equals(inClass) ? "<init>" : m.group(1));
                calls.putIfAbsent(method, new TreeSet<>());
                continue;
            }
            m = callLine.matcher(line);
            if (m.find()) {
                addCall(inClass, method, m.group(1).replace("\"", ""));
            }
        }
        due.same("methods found (" + calls.size() + "), 100 at least", 1, calls.size() >= 100 ? 1 : 0);
        for (Set<String> called : calls.values()) {
            due.same("called, but not found of " + called, 1, calls.keySet().containsAll(called) ? 1 : 0);
        }
    }

    private void addCall(String inClass, String method, String called) {
        String whole = called.contains(".") ? called : inClass + "." + called;
        if (whole.startsWith("HandRing")) {
            calls.get(method).add(whole);
        } else {
            due.same(method + " may call " + whole, 1, LIBRARY.contains(whole) ? 1 : 0);
        }
    }

    private void findBelow() {
        for (String method : calls.keySet()) {
            Set<String> found = new TreeSet<>();
            List<String> open = new ArrayList<>(calls.get(method));
            while (!open.isEmpty()) {
                String next = open.remove(open.size() - 1);
                if (found.add(next)) {
                    open.addAll(calls.getOrDefault(next, Set.of()));
                }
            }
            below.put(method, found);
        }
    }

    private void recursion() {
        due.part("rule 8");
        Set<String> found = new TreeSet<>();
        for (String method : calls.keySet()) {
            if (below.get(method).contains(method)) {
                found.add(method);
            }
        }
        due.same("methods that come back to themselves", RECURSIVE.toString(), found.toString());
    }

    private void depth() {
        due.part("rule 11");
        for (String method : calls.keySet()) {
            int depth = depthOf(method);
            due.same(method + " goes " + depth + " deep, at most " + DEPTH_MOST, 1, depth <= DEPTH_MOST ? 1 : 0);
        }
    }

    /** Methods that call one another count once together. */
    private int depthOf(String method) {
        Integer known = depths.get(method);
        if (known != null) {
            return known;
        }
        int deepest = 0;
        for (String one : calls.keySet()) {
            if (one.equals(method) || comesBack(one, method)) {
                for (String called : calls.get(one)) {
                    if (!comesBack(called, method)) {
                        deepest = Math.max(deepest, depthOf(called));
                    }
                }
            }
        }
        depths.put(method, deepest + 1);
        return deepest + 1;
    }

    private boolean comesBack(String one, String other) {
        return below.getOrDefault(one, Set.of()).contains(other) && below.get(other).contains(one);
    }
}
