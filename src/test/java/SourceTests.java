import java.io.IOException;
import java.lang.reflect.Constructor;
import java.lang.reflect.Field;
import java.lang.reflect.Method;
import java.lang.reflect.Modifier;
import java.nio.file.Files;
import java.nio.file.Path;
import java.util.HashSet;
import java.util.List;
import java.util.Map;
import java.util.Set;
import java.util.TreeMap;
import java.util.TreeSet;
import java.util.regex.Matcher;
import java.util.regex.Pattern;

/** What of LANGUAGE.md can be seen in the source and in the class; run from the project's folder, as .ci/run does. */
public final class SourceTests {
    private static final Check C = new Check();
    private static final String FACE = "person wrong wrongs mend of feed law counts later street run fewest all evening ring owes post nearest"
        + " chosen judge fits byTurns drawn call again days slam led image back undo redo body act trace keep row put element shift"
        + " taken count";
    private static final String[] FORBIDDEN = {"throw", "throws", "try", "catch", "finally", "synchronized", "assert", "package", "yield",
        "native", "volatile", "transient", "var", "Object", "Random", "System\\.(?!arraycopy)", "Thread", "hashCode", "toString",
        "\\w+Exact", "->", "::", "static\\s*\\{", "@"};

    public static void main(String[] args) throws IOException {
        String source = Files.readString(Path.of("src/main/java/ForgivenStreet.java"));
        face();
        words(source);
        Map<String, String> bodies = methods(source);
        depths(bodies);
        room(bodies);
        C.end("SourceTests");
    }

    private static void face() {
        C.part("rule 1");
        Set<String> due = new TreeSet<>(Set.of(FACE.split(" ")));
        Set<String> seen = new TreeSet<>();
        for (Method m : ForgivenStreet.class.getDeclaredMethods()) {
            if (Modifier.isPublic(m.getModifiers())) seen.add(m.getName());
            else C.holds(m + " is private and bears its own name", Modifier.isPrivate(m.getModifiers()) && !due.contains(m.getName()));
            C.holds(m + " has at most seven parameters", m.getParameterCount() <= 7);
        }
        C.holds("the methods are " + seen, seen.equals(due));
        C.holds("the class is public and final", (ForgivenStreet.class.getModifiers() & (Modifier.PUBLIC | Modifier.FINAL)) == (Modifier.PUBLIC | Modifier.FINAL));
        Set<String> constants = new HashSet<>(Set.of("BAD", "NOT", "FULL", "STATE", "VOID"));
        for (Field f : ForgivenStreet.class.getDeclaredFields()) {
            boolean isFace = constants.remove(f.getName());
            C.holds(f + " is as it should be", isFace ? Modifier.isPublic(f.getModifiers()) : Modifier.isPrivate(f.getModifiers()));
        }
        C.holds("all constants are there", constants.isEmpty());
        C.due("constructors", ForgivenStreet.class.getConstructors().length, 1);
        for (Class<?> inner : ForgivenStreet.class.getDeclaredClasses()) nested(inner, due);
        C.holds("at most twelve classes", ForgivenStreet.class.getDeclaredClasses().length < 12);
    }

    private static void nested(Class<?> inner, Set<String> face) {
        C.holds(inner + " is static", Modifier.isStatic(inner.getModifiers()));
        int fields = 0;
        for (Field f : inner.getDeclaredFields()) {
            if (!Modifier.isStatic(f.getModifiers())) fields++;
            else C.holds(f + " is final", Modifier.isFinal(f.getModifiers()));
        }
        C.holds(inner + " has at most twenty fields", fields <= 20);
        for (Method m : inner.getDeclaredMethods()) C.holds(m + " bears its own name", !face.contains(m.getName()));
        for (Constructor<?> c : inner.getDeclaredConstructors()) C.holds(c + " takes at most seven", c.getParameterCount() <= 7);
    }

    private static String bare(String source) {
        return source.replaceAll("(?s)/\\*.*?\\*/", "").replaceAll("//[^\n]*", "").replaceAll("'(\\\\.|[^'])'", "'c'");
    }

    private static void words(String source) {
        C.part("rules 3 to 6");
        String code = bare(source);
        for (String word : FORBIDDEN) {
            boolean isWord = Character.isLetter(word.charAt(0));
            Matcher m = Pattern.compile(isWord && !word.endsWith(")") && !word.endsWith("{") ? "\\b" + word + "\\b" : word).matcher(code);
            C.holds("no " + word, !m.find());
        }
        Matcher imports = Pattern.compile("import ([^;]+);").matcher(code);
        while (imports.find()) C.holds(imports.group(1), Set.of("java.util.Arrays", "java.util.ArrayList", "java.util.List").contains(imports.group(1)));
        Matcher statics = Pattern.compile("Math\\.(\\w+)").matcher(code);
        while (statics.find()) C.holds(statics.group(1), Set.of("max", "min", "abs").contains(statics.group(1)));
    }

    private static final Pattern CLASS = Pattern.compile("^    private static final class (\\w+)");
    private static final Pattern HEAD = Pattern.compile("^( {4}| {8})(?=\\S)[\\w\\[\\] ]*?(\\w+)\\([^;]*\\) \\{$");
    private static final Pattern CALL = Pattern.compile("(?:(\\w+)\\.)?(\\w+)\\(");
    /** Of which class the fields and arguments are by which methods are called. */
    private static final Map<String, String> HOLDERS = Map.of("folk", "Folk", "laws", "Law", "now", "Scene", "thought", "Scene", "kept", "Scene",
        "scene", "Scene", "changes", "Changes", "shelves", "Shelves", "doors", "Doors", "eve", "Evening");

    /** A method's head stands on one line and its last bracket under the head's first sign. */
    private static Map<String, String> methods(String source) {
        String[] lines = bare(source).split("\n");
        Map<String, String> bodies = new TreeMap<>();
        String owner = "";
        for (int i = 0; i < lines.length; i++) {
            Matcher inner = CLASS.matcher(lines[i]);
            if (inner.find()) owner = inner.group(1);
            Matcher head = HEAD.matcher(lines[i]);
            if (!head.find()) continue;
            int end = i;
            while (!lines[end].equals(head.group(1) + "}")) end++;
            String name = (head.group(1).length() == 8 ? owner : "") + "." + head.group(2);
            C.holds(name + " stands once", bodies.put(name, String.join("\n", List.of(lines).subList(i + 1, end))) == null);
            C.holds(name + " has at most sixty lines", end - i < 60);
            i = end;
        }
        C.holds("methods were seen", bodies.size() > 100);
        return bodies;
    }

    private static void depths(Map<String, String> bodies) {
        C.part("rule 11");
        for (String name : bodies.keySet()) {
            int depth = depth(name, bodies, new HashSet<>());
            C.holds(name + " goes at most eight deep, not " + depth, depth <= 8);
        }
    }

    /** How many methods are open at once below one, each counted once. */
    private static int depth(String name, Map<String, String> bodies, Set<String> open) {
        open.add(name);
        int deepest = 0;
        Matcher call = CALL.matcher(bodies.get(name));
        while (call.find()) {
            String own = name.substring(0, name.indexOf('.'));
            String holder = call.group(1) == null ? own : HOLDERS.getOrDefault(call.group(1), "?");
            String called = holder + "." + call.group(2);
            if (bodies.containsKey(called) && !open.contains(called)) deepest = Math.max(deepest, depth(called, bodies, open));
        }
        open.remove(name);
        return deepest + 1;
    }

    /** The room is one for all calls: what an object needs is made with it. */
    private static void room(Map<String, String> bodies) {
        C.part("rule 12");
        for (String name : bodies.keySet()) C.holds(name + " makes nothing", !bodies.get(name).contains("new "));
    }
}
