import java.io.File;
import java.io.PrintWriter;
import java.io.StringWriter;
import java.net.URISyntaxException;
import java.util.ArrayList;
import java.util.HashMap;
import java.util.HashSet;
import java.util.LinkedHashSet;
import java.util.List;
import java.util.Map;
import java.util.Set;
import java.util.regex.Matcher;
import java.util.regex.Pattern;
import java.util.spi.ToolProvider;

/**
 * Rule 11 of LANGUAGE.md: calls that are no recursion go at most eight deep, counted from the face on,
 * a call of the library being one of them.
 */
public final class DepthTest {
    private static final Check CHECK = new Check("DepthTest");
    private static final Map<String, Set<String>> CALLS = new HashMap<>();
    private static final Map<String, Set<String>> REACHED = new HashMap<>();
    private static final Map<String, List<String>> LONGEST = new HashMap<>();

    public static void main(String[] args) throws URISyntaxException {
        File folder = new File(GriddleTurn.class.getProtectionDomain().getCodeSource().getLocation().toURI());
        for (File file : folder.listFiles()) {
            if (file.getName().matches("GriddleTurn(\\$\\w+)?\\.class")) {
                read(file);
            }
        }
        for (String method : CALLS.keySet()) {
            REACHED.put(method, reached(method));
        }
        List<String> deepest = new ArrayList<>();
        Set<String> recursive = new HashSet<>();
        for (String method : CALLS.keySet()) {
            if (REACHED.get(method).contains(method)) {
                recursive.add(method);
            }
            if (longest(method).size() > deepest.size()) {
                deepest = longest(method);
            }
        }
        CHECK.due("methods are found", 1, CALLS.size() > 100 ? 1 : 0);
        CHECK.due("deepest is " + deepest, 1, deepest.size() <= 8 ? 1 : 0);
        for (String method : recursive) {
            CHECK.due("recursive only in the reader: " + method, 1, method.contains("$Reader.read") ? 1 : 0);
        }
        CHECK.end();
    }

    private static void read(File file) {
        StringWriter text = new StringWriter();
        PrintWriter writer = new PrintWriter(text);
        ToolProvider.findFirst("javap").orElseThrow().run(writer, writer, "-c", "-p", "-s", file.getPath());
        String type = file.getName().replace(".class", "");
        Pattern call = Pattern.compile("(?:Interface)?Method (?:([\\w$/]+)\\.)?([\\w\"<>]+):(\\S+)");
        String name = "";
        String method = "";
        for (String line : text.toString().split("\n")) {
            Matcher head = Pattern.compile("^  \\S.*?([\\w$]+)\\(.*\\).*;$").matcher(line);
            if (head.find()) {
                name = head.group(1).startsWith("GriddleTurn") ? "<init>" : head.group(1);
            } else if (line.startsWith("    descriptor: ")) {
                method = type + "." + name + ":" + line.substring(16).strip();
                CALLS.putIfAbsent(method, new LinkedHashSet<>());
            } else if (line.contains("invoke") && !method.isEmpty()) {
                Matcher called = call.matcher(line);
                if (called.find()) {
                    String in = called.group(1) == null ? type : called.group(1);
                    CALLS.get(method).add(in + "." + called.group(2).replace("\"", "") + ":" + called.group(3));
                }
            }
        }
    }

    private static Set<String> reached(String method) {
        Set<String> met = new HashSet<>();
        List<String> open = new ArrayList<>(CALLS.getOrDefault(method, Set.of()));
        while (!open.isEmpty()) {
            String next = open.remove(open.size() - 1);
            if (met.add(next)) {
                open.addAll(CALLS.getOrDefault(next, Set.of()));
            }
        }
        return met;
    }

    /** The longest chain of calls from a method on, without those that lead back to it. */
    private static List<String> longest(String method) {
        if (!LONGEST.containsKey(method)) {
            List<String> best = List.of();
            for (String next : CALLS.getOrDefault(method, Set.of())) {
                boolean back = REACHED.getOrDefault(next, Set.of()).contains(method);
                if (!back && longest(next).size() > best.size()) {
                    best = longest(next);
                }
            }
            List<String> chain = new ArrayList<>(List.of(method));
            chain.addAll(best);
            LONGEST.put(method, chain);
        }
        return LONGEST.get(method);
    }
}
