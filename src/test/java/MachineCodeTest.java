import java.io.PrintWriter;
import java.io.StringWriter;
import java.net.URISyntaxException;
import java.nio.file.Path;
import java.util.ArrayList;
import java.util.List;
import java.util.Map;
import java.util.Optional;
import java.util.Set;
import java.util.TreeMap;
import java.util.TreeSet;
import java.util.regex.Matcher;
import java.util.regex.Pattern;
import java.util.spi.ToolProvider;

/** Rules 4, 6, 8, 11 and 12 of LANGUAGE.md, as the compiled program tells them: what calls what, and makes what. */
public final class MachineCodeTest {
    private static final int DEEPEST = 8;
    private static final Set<String> LIBRARY = Set.of("java/lang/Math.max", "java/lang/Math.min", "java/lang/Object.<init>");
    private static final Set<String> MAKERS = Set.of("HaggleWash.constants", "ProgramText.toProgram");
    private static final Pattern CALLED = Pattern.compile("invoke\\w+ .*// (?:Interface)?Method ([^:]+):.*");
    private static final Pattern HEAD = Pattern.compile("  (?:\\S.* )?(\\S+)\\(.*\\);");

    private static final Map<String, Set<String>> CALLS = new TreeMap<>();

    public static void main(String[] args) throws URISyntaxException {
        Optional<ToolProvider> javap = ToolProvider.findFirst("javap");
        if (javap.isEmpty()) {
            System.out.println("this Java has no javap, so nothing is looked at");
            return;
        }
        for (String type : types()) {
            look(type, disassembled(javap.get(), type));
        }
        Check.holds("methods were found", CALLS.size() > 100);
        for (String method : CALLS.keySet()) {
            int depth = depth(method, new ArrayList<>());
            Check.holds(method + " goes " + depth + " deep", depth <= DEEPEST);
        }
        Check.end();
    }

    private static List<String> types() {
        List<String> names = new ArrayList<>(List.of(HaggleWash.class.getName()));
        for (Class<?> type : HaggleWash.class.getDeclaredClasses()) {
            names.add(type.getName());
            Check.due("classes inside " + type, type.getDeclaredClasses().length, 0);
        }
        return names;
    }

    private static String disassembled(ToolProvider javap, String type) throws URISyntaxException {
        Path built = Path.of(HaggleWash.class.getProtectionDomain().getCodeSource().getLocation().toURI());
        StringWriter out = new StringWriter();
        PrintWriter printed = new PrintWriter(out);
        Check.due("javap of " + type, javap.run(printed, printed, "-c", "-p", "-cp", built.toString(), type), 0);
        return out.toString();
    }

    private static void look(String type, String listing) {
        String method = "";
        for (String line : listing.split("\\R")) {
            Matcher head = HEAD.matcher(line);
            if (head.matches()) {
                method = nameOf(type, head.group(1).equals(type) ? "<init>" : head.group(1));
            } else if (line.equals("  static {};")) {
                method = nameOf(type, "constants");
            }
            CALLS.putIfAbsent(method, new TreeSet<>());
            lookAtCode(type, method, line.trim());
        }
    }

    private static String nameOf(String type, String method) {
        return type.substring(type.indexOf('$') + 1) + "." + method;
    }

    private static void lookAtCode(String type, String method, String line) {
        Matcher called = CALLED.matcher(line);
        if (called.find()) {
            String callee = called.group(1).replace("\"", "");
            if (callee.startsWith("java")) {
                Check.holds(method + " calls " + callee, LIBRARY.contains(callee));
            } else {
                int dot = callee.indexOf('.');
                CALLS.get(method).add(dot < 0 ? nameOf(type, callee)
                        : nameOf(callee.substring(0, dot), callee.substring(dot + 1)));
            }
        }
        if (line.matches("\\d+: (new|newarray|anewarray|multianewarray)\\b.*")) {
            Check.holds(method + " makes an object", method.endsWith(".<init>") || MAKERS.contains(method));
        }
        Check.holds(method + " has " + line, !line.matches("\\d+: (athrow|checkcast|instanceof|monitorenter|invokedynamic)\\b.*"));
    }

    /** How many calls stand open at once, with that of the method itself; a method that calls itself is too deep. */
    private static int depth(String method, List<String> open) {
        if (open.contains(method)) {
            Check.holds(method + " calls itself", false);
            return DEEPEST + 1;
        }
        open.add(method);
        int deepest = 0;
        for (String callee : CALLS.getOrDefault(method, Set.of())) {
            Check.holds(callee + " is known", CALLS.containsKey(callee));
            deepest = Math.max(deepest, depth(callee, open));
        }
        open.remove(open.size() - 1);
        return deepest + 1;
    }
}
