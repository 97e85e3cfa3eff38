import java.io.IOException;
import java.lang.reflect.Constructor;
import java.lang.reflect.Field;
import java.lang.reflect.Method;
import java.lang.reflect.Modifier;
import java.nio.file.Files;
import java.nio.file.Path;
import java.util.Arrays;
import java.util.Map;
import java.util.Set;
import java.util.TreeMap;
import java.util.TreeSet;
import java.util.regex.Matcher;
import java.util.regex.Pattern;

/** The face of the class, and what of LANGUAGE.md can be seen in it. Takes the path of the source. */
public final class LanguageTest {
    private static final String[] FACE = {
        "stop(int,int)", "fare(int,int,int)", "day(int,int)", "trip(int,int,int)", "call(int,int,int,int)",
        "miss(int,int,boolean)", "walk(int,int,int)", "shuttle(int,int,int,int)", "asked(int,int)",
        "late(int,int,int,int)", "gone(int,int,boolean)", "ways(int,int,int,int)", "way(int,int)", "leg(int,int,int)",
        "take(int)", "give(int)", "still(int)", "comes(int)", "taken(int,int,int)", "latest(int,int,int,int)",
        "reach(int,int,int,int)", "meet(int,int,int)", "met()", "table(int,int,int,int)", "count(int)"};
    private static final String[] FORBIDDEN = {
        "throw", "throws", "try", "catch", "synchronized", "assert", "->", "::", "static \\{", "System\\.(?!arraycopy)",
        "Exact\\(", "hashCode", "toString", "native", "volatile", "var", "null", "interface", "double", "float"};

    /** Of which class what a field is called is. */
    private static final Map<String, String> OWNERS = Map.ofEntries(
            Map.entry("stops", "Stops"), Map.entry("trips", "Trips"), Map.entry("walks", "Walks"), Map.entry("places", "Places"),
            Map.entry("tickets", "Tickets"), Map.entry("runs", "Runs"), Map.entry("search", "Search"), Map.entry("found", "Found"),
            Map.entry("board", "Board"), Map.entry("keys", "Sorted"), Map.entry("delays", "Delays"));
    private static final Set<String> LIBRARY = Set.of("Math", "Arrays", "System");

    private static int wrong;

    private static void due(String what, boolean holds) {
        if (!holds) {
            wrong++;
            System.out.println("not so: " + what);
        }
    }

    private static String signature(Method m) {
        StringBuilder text = new StringBuilder(m.getName()).append('(');
        for (Class<?> type : m.getParameterTypes()) {
            text.append(text.charAt(text.length() - 1) == '(' ? "" : ",").append(type.getSimpleName());
        }
        return text.append(')').toString();
    }

    private static void face() {
        Class<?> desk = ConnectionDesk.class;
        due("public and final", Modifier.isPublic(desk.getModifiers()) && Modifier.isFinal(desk.getModifiers()));
        due("one constructor", desk.getDeclaredConstructors().length == 1);
        for (Constructor<?> c : desk.getDeclaredConstructors()) {
            due("a public one without parameters", Modifier.isPublic(c.getModifiers()) && c.getParameterCount() == 0);
        }
        Set<String> open = new TreeSet<>();
        for (Method m : desk.getDeclaredMethods()) {
            if (!Modifier.isPrivate(m.getModifiers()) && !m.isSynthetic()) {
                open.add(signature(m));
                due("answers an int: " + m, m.getReturnType() == int.class && Modifier.isPublic(m.getModifiers()));
            }
        }
        due("the methods of the face, no others: " + open, open.equals(new TreeSet<>(Arrays.asList(FACE))));
        for (Field f : desk.getDeclaredFields()) {
            due("private: " + f, Modifier.isPrivate(f.getModifiers()));
        }
    }

    private static void classesInside() {
        Set<String> names = new TreeSet<>();
        for (String row : FACE) {
            names.add(row.substring(0, row.indexOf('(')));
        }
        Class<?>[] inside = ConnectionDesk.class.getDeclaredClasses();
        due("some twelve classes at most", inside.length + 1 <= 12);
        for (Class<?> c : inside) {
            due("static: " + c, Modifier.isStatic(c.getModifiers()));
            due("some twenty fields: " + c, c.getDeclaredFields().length <= 20);
            for (Method m : c.getDeclaredMethods()) {
                due("no name of the face: " + m, !names.contains(m.getName()));
                due("seven parameters: " + m, m.getParameterCount() <= 7);
            }
            for (Field f : c.getDeclaredFields()) {
                due("no static state: " + f, !Modifier.isStatic(f.getModifiers()));
            }
        }
    }

    private static void text(String source) {
        String code = source.replaceAll("(?s)/\\*.*?\\*/", "").replaceAll("//[^\n]*", "");
        for (String word : FORBIDDEN) {
            String pattern = Character.isLetter(word.charAt(0)) ? "\\b" + word : word;
            boolean whole = word.chars().allMatch(Character::isLetter);
            Matcher found = Pattern.compile(whole ? pattern + "\\b" : pattern).matcher(code);
            due("without " + word, !found.find());
        }
        Matcher imports = Pattern.compile("import ([^;]*);").matcher(code);
        while (imports.find()) {
            due("import of " + imports.group(1), imports.group(1).equals("java.util.Arrays"));
        }
        due("ASCII alone", source.chars().allMatch(c -> c < 128));
        methodLengths(code);
    }

    private static void methodLengths(String code) {
        String[] lines = code.split("\n");
        int begin = -1;
        String indent = "";
        for (int n = 0; n < lines.length; n++) {
            String line = lines[n];
            String trimmed = line.strip();
            String lead = line.substring(0, line.length() - line.stripLeading().length());
            if (begin < 0 && trimmed.endsWith(") {") && (lead.length() == 4 || lead.length() == 8)
                    && !trimmed.matches("(if|for|while|switch|\\}).*")) {
                begin = n;
                indent = lead;
            } else if (begin >= 0 && line.equals(indent + "}")) {
                due("sixty lines at most: " + lines[begin].strip(), n - begin < 60);
                begin = -1;
            }
        }
    }

    /** The bodies of all methods by Class.method, as the indents of the source tell them. */
    private static Map<String, String> bodies(String code) {
        Map<String, String> bodies = new TreeMap<>();
        String inside = "ConnectionDesk";
        String name = "";
        for (String line : code.split("\n")) {
            Matcher nested = Pattern.compile("^    private static final class (\\w+) \\{").matcher(line);
            Matcher method = Pattern.compile("^(?:    |        )(?! )(?!return|if|for|while|switch)[^=;]*?(\\w+)\\([^;]*\\) \\{$").matcher(line);
            if (nested.find()) {
                inside = nested.group(1);
            } else if (line.equals("    }") && !inside.equals("ConnectionDesk") && name.isEmpty()) {
                inside = "ConnectionDesk";
            } else if (name.isEmpty() && method.find()) {
                name = inside + "." + method.group(1);
            } else if (!name.isEmpty() && line.equals(inside.equals("ConnectionDesk") ? "    }" : "        }")) {
                name = "";
            } else if (!name.isEmpty()) {
                bodies.merge(name, line, (a, b) -> a + "\n" + b);
            }
        }
        return bodies;
    }

    /** How many calls stand open at once, the library's own counted; 99 when a method calls itself. */
    private static int depth(String method, Map<String, String> bodies, Set<String> open) {
        if (!bodies.containsKey(method)) {
            return 1;
        }
        if (!open.add(method)) {
            return 99;
        }
        int most = 0;
        Matcher call = Pattern.compile("(?:(\\w+)\\.)?(\\w+)\\(").matcher(bodies.get(method));
        while (call.find()) {
            String name = call.group(2);
            if (name.matches("if|for|while|switch")) {
                continue;
            }
            String own = method.substring(0, method.indexOf('.'));
            String where = call.group(1) == null ? own : OWNERS.getOrDefault(call.group(1), call.group(1));
            String called = where + "." + name;
            if (call.group(1) == null && !bodies.containsKey(called)) {
                called = "ConnectionDesk." + name;
            }
            due("the text tells what is called: " + called,
                    bodies.containsKey(called) || LIBRARY.contains(where) || bodies.get(method).contains("new " + name + "("));
            most = Math.max(most, depth(called, bodies, open));
        }
        open.remove(method);
        return 1 + most;
    }

    private static void callDepth(String source) {
        String code = source.replaceAll("(?s)/\\*.*?\\*/", "").replaceAll("//[^\n]*", "");
        Map<String, String> bodies = bodies(code);
        due("the text tells all methods: " + bodies.size(), bodies.size() > 90);
        for (String row : FACE) {
            String name = row.substring(0, row.indexOf('('));
            due("found in the text: " + name, bodies.containsKey("ConnectionDesk." + name));
            int depth = depth("ConnectionDesk." + name, bodies, new TreeSet<>());
            due(name + " goes " + depth + " calls deep", depth <= 8);
        }
    }

    public static void main(String[] args) throws IOException {
        face();
        classesInside();
        text(Files.readString(Path.of(args[0])));
        callDepth(Files.readString(Path.of(args[0])));
        System.out.println(wrong + " rules are not kept");
        if (wrong != 0) {
            System.exit(1);
        }
    }
}
