import java.io.IOException;
import java.io.PrintWriter;
import java.io.StringWriter;
import java.net.URISyntaxException;
import java.nio.file.Files;
import java.nio.file.Path;
import java.util.ArrayList;
import java.util.HashMap;
import java.util.HashSet;
import java.util.List;
import java.util.Map;
import java.util.Set;
import java.util.TreeMap;
import java.util.TreeSet;
import java.util.regex.Matcher;
import java.util.regex.Pattern;
import java.util.spi.ToolProvider;
import java.util.stream.Stream;

/** LANGUAGE.md, rule 11: calls that are no recursion go at most eight deep, the library's counted, too. */
public final class DepthTest {
    private static final Check CHECK = new Check();
    private static final int DEEPEST = 8;
    private static final Pattern CLASS = Pattern.compile("^(?:\\w+ )*class (GivenMinutes[\\w$]*) .*\\{");
    private static final Pattern METHOD = Pattern.compile("^  [^ ].*?([\\w$]+)\\(.*\\).*;");
    private static final Pattern CALL = Pattern.compile("// (?:Interface)?Method (?:([\\w$/]+)\\.)?\"?([\\w<>$]+)\"?:");

    /** Of each method, those that it calls. */
    private static final Map<String, Set<String>> CALLS = new TreeMap<>();
    private static final Map<String, Set<String>> REACHED = new HashMap<>();

    // ==== Who calls whom

    private static List<String> lines(ToolProvider javap) throws IOException, URISyntaxException {
        Path place = Path.of(GivenMinutes.class.getProtectionDomain().getCodeSource().getLocation().toURI());
        List<String> args = new ArrayList<>(List.of("-c", "-p"));
        try (Stream<Path> files = Files.list(place)) {
            files.map(Path::toString).filter(f -> f.matches(".*[/\\\\]GivenMinutes(\\$\\w+)?\\.class")).sorted().forEach(args::add);
        }
        StringWriter text = new StringWriter();
        CHECK.due("javap", javap.run(new PrintWriter(text, true), new PrintWriter(System.err, true), args.toArray(new String[0])), 0);
        return text.toString().lines().toList();
    }

    private static void readCalls(List<String> lines) {
        String in = "";
        String method = "";
        for (String line : lines) {
            Matcher ofClass = CLASS.matcher(line);
            Matcher ofMethod = METHOD.matcher(line);
            Matcher call = CALL.matcher(line);
            if (ofClass.find()) {
                in = ofClass.group(1);
            } else if (ofMethod.find()) {
                String name = ofMethod.group(1);
                method = in + "." + (name.equals(in) ? "<init>" : name);
                CALLS.putIfAbsent(method, new TreeSet<>());
            } else if (call.find() && !line.contains("Exception")) {
                CALLS.get(method).add((call.group(1) == null ? in : call.group(1)) + "." + call.group(2));
            }
        }
    }

    // ==== How deep

    private static Set<String> reachedBy(String method) {
        Set<String> all = REACHED.get(method);
        if (all == null) {
            all = new HashSet<>();
            List<String> open = new ArrayList<>(CALLS.getOrDefault(method, Set.of()));
            while (!open.isEmpty()) {
                String next = open.remove(open.size() - 1);
                if (all.add(next)) {
                    open.addAll(CALLS.getOrDefault(next, Set.of()));
                }
            }
            REACHED.put(method, all);
        }
        return all;
    }

    private static boolean isRecursion(String from, String to) {
        return reachedBy(to).contains(from) || from.equals(to);
    }

    /** The longest row of calls below one; methods that call one another count as one. */
    private static List<String> deepest(String method, Set<String> open) {
        List<String> longest = new ArrayList<>();
        for (String next : CALLS.getOrDefault(method, Set.of())) {
            if (open.contains(next)) {
                continue;
            }
            Set<String> within = new HashSet<>(open);
            within.add(next);
            List<String> row = deepest(next, within);
            if (isRecursion(method, next)) {
                row.remove(0);
            }
            longest = row.size() > longest.size() ? row : longest;
        }
        longest.add(0, method);
        return longest;
    }

    public static void main(String[] args) throws IOException, URISyntaxException {
        ToolProvider javap = ToolProvider.findFirst("javap").orElse(null);
        if (javap == null) {
            System.out.println("there is no javap: how deep calls go was not looked at");
            return;
        }
        readCalls(lines(javap));
        CHECK.due("all methods were read", CALLS.size() > GivenMinutes.class.getDeclaredMethods().length, true);
        for (java.lang.reflect.Method m : GivenMinutes.class.getDeclaredMethods()) {
            String name = "GivenMinutes." + m.getName();
            CHECK.due("it is known what is called by " + name, CALLS.containsKey(name), true);
            List<String> row = deepest(name, new HashSet<>(Set.of(name)));
            CHECK.due(row.size() + " deep: " + row, row.size() <= DEEPEST, true);
            if (args.length > 0) {
                System.out.println(row.size() + " " + row);
            }
        }
        CHECK.end();
    }
}
