import java.io.PrintWriter;
import java.io.StringWriter;
import java.nio.file.Files;
import java.nio.file.Path;
import java.util.ArrayList;
import java.util.HashMap;
import java.util.HashSet;
import java.util.List;
import java.util.Map;
import java.util.Set;
import java.util.TreeMap;
import java.util.TreeSet;
import java.util.regex.Matcher;
import java.util.regex.Pattern;
import java.util.spi.ToolProvider;
import java.util.stream.Stream;

/** Rules of LANGUAGE.md that the compiled class tells more surely than its source: what calls what, and makes what. */
public final class TestLanguage {
    private static final Set<String> LIBRARY = Set.of("java/lang/Object.<init>", "java/lang/String.length",
            "java/lang/String.charAt", "java/lang/System.arraycopy", "java/lang/Integer.bitCount",
            "java/lang/IndexOutOfBoundsException.<init>", "java/util/NoSuchElementException.<init>");
    private static final int DEEPEST = 8;
    private static final int LONGEST = 60;

    private static final Pattern CLASS = Pattern.compile("(?:\\w+ )*class (\\S+).*\\{");
    private static final Pattern METHOD = Pattern.compile("  (?:\\S.*? )?([\\w$]+)\\(.*\\).*;");
    private static final Pattern CALL = Pattern.compile("invoke.*Method (?:([\\w$/]+)\\.)?\"?([\\w<>]+)\"?:");
    private static final Pattern MAKES = Pattern.compile(": (?:new|newarray|anewarray|multianewarray) .*");

    private final Map<String, Set<String>> calls = new TreeMap<>();
    private final Map<String, List<String>> made = new TreeMap<>();
    private final Map<String, Integer> depths = new HashMap<>();
    private int tables;

    public static void main(String[] args) throws Exception {
        TestLanguage test = new TestLanguage();
        test.read(compiled());
        Check.due("methods are found", true, test.calls.size() > 100);
        test.onlyTheListedLibrary();
        test.noneCallsItselfAndNoneGoesDeep();
        test.onlyConstructorsMakeObjects();
        Check.due("tables of exceptions (nothing is caught)", 0, test.tables);
        methodsAreShort();
        Check.end();
    }

    private static String compiled() throws Exception {
        List<String> words = new ArrayList<>(List.of("-p", "-c"));
        Path folder = Path.of(JawBench.class.getProtectionDomain().getCodeSource().getLocation().toURI());
        try (Stream<Path> files = Files.list(folder)) {
            files.filter(f -> f.getFileName().toString().matches("JawBench([$]\\w+)?[.]class"))
                    .sorted().forEach(f -> words.add(f.toString()));
        }
        StringWriter told = new StringWriter();
        PrintWriter out = new PrintWriter(told);
        int code = ToolProvider.findFirst("javap").orElseThrow().run(out, out, words.toArray(new String[0]));
        Check.due("javap ends with", 0, code);
        return told.toString();
    }

    private void read(String listing) {
        String inside = "";
        String method = "";
        for (String line : listing.lines().toList()) {
            Matcher type = CLASS.matcher(line);
            Matcher head = METHOD.matcher(line);
            Matcher call = CALL.matcher(line);
            if (type.matches()) {
                inside = type.group(1);
            } else if (!line.startsWith("   ") && head.matches()) {
                method = inside + "." + (inside.equals(head.group(1)) ? "<init>" : head.group(1));
                calls.computeIfAbsent(method, m -> new TreeSet<>());
            } else if (call.find()) {
                calls.get(method).add((call.group(1) == null ? inside : call.group(1)) + "." + call.group(2));
            }
            if (MAKES.matcher(line).find()) {
                made.computeIfAbsent(method, m -> new ArrayList<>()).add(line.strip());
            }
            if (line.contains("Exception table:")) {
                tables++;
            }
        }
    }

    /** Rule 4. */
    private void onlyTheListedLibrary() {
        for (Map.Entry<String, Set<String>> from : calls.entrySet()) {
            for (String to : from.getValue()) {
                Check.due(from.getKey() + " may call " + to, true, calls.containsKey(to) || LIBRARY.contains(to));
            }
        }
    }

    /** Rules 8 and 11. */
    private void noneCallsItselfAndNoneGoesDeep() {
        for (String method : calls.keySet()) {
            int depth = depth(method, new HashSet<>());
            Check.due(method + " goes " + depth + " deep", true, depth <= DEEPEST);
        }
    }

    private int depth(String method, Set<String> open) {
        if (depths.containsKey(method)) {
            return depths.get(method);
        }
        if (!open.add(method)) {
            return DEEPEST + 1;
        }
        int deepest = 0;
        for (String to : calls.getOrDefault(method, Set.of())) {
            deepest = Math.max(deepest, calls.containsKey(to) ? depth(to, open) : 0);
        }
        open.remove(method);
        depths.put(method, deepest + 1);
        return deepest + 1;
    }

    /** Rule 12, and what README.md says: no call makes an object, but for the exceptions of suit(). */
    private void onlyConstructorsMakeObjects() {
        for (Map.Entry<String, List<String>> maker : made.entrySet()) {
            for (String what : maker.getValue()) {
                boolean thrown = maker.getKey().equals("JawBench.suit")
                        && (what.contains("IndexOutOfBoundsException") || what.contains("NoSuchElementException"));
                Check.due(maker.getKey() + " makes " + what, true, thrown || maker.getKey().endsWith(".<init>"));
            }
        }
    }

    /** Rule 11: from a method's own line to the brace that stands below its first sign. */
    private static void methodsAreShort() throws Exception {
        List<String> lines = Files.readAllLines(Path.of("src/main/java/JawBench.java"));
        for (int i = 0; i < lines.size(); i++) {
            if (lines.get(i).matches("(    |        )[a-zA-Z].*\\) (throws .*)?\\{") && !lines.get(i).matches(" +(if|for|while|switch) .*")) {
                String end = lines.get(i).replaceAll("\\S.*", "") + "}";
                int last = i;
                while (last < lines.size() && !lines.get(last).equals(end)) {
                    last++;
                }
                Check.due("lines of " + lines.get(i).strip(), true, last - i + 1 <= LONGEST);
            }
        }
    }
}
