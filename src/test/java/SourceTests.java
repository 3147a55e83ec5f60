import java.io.IOException;
import java.lang.reflect.Constructor;
import java.lang.reflect.Field;
import java.lang.reflect.Method;
import java.lang.reflect.Modifier;
import java.nio.file.Files;
import java.nio.file.Path;
import java.util.HashSet;
import java.util.Set;
import java.util.TreeSet;
import java.util.regex.Matcher;
import java.util.regex.Pattern;

/** What of LANGUAGE.md can be seen in the source and in the class; run from the project's folder, as .ci/run does. */
public final class SourceTests {
    private static final Check C = new Check();
    private static final String FACE = "person wrong wrongs mend of feed law counts later street run fewest all evening ring owes post nearest"
        + " chosen judge fits byTurns drawn call again days slam led image back undo redo body act trace keep row put element shift"
        + " taken count";
    private static final String[] FORBIDDEN = {"throw", "throws", "try", "catch", "finally", "synchronized", "assert", "package", "yield",
        "native", "volatile", "transient", "var", "Object", "Random", "System\\.(?!arraycopy)", "Thread", "hashCode", "toString",
        "\\w+Exact", "->", "::", "static\\s*\\{", "@"};

    public static void main(String[] args) throws IOException {
        String source = Files.readString(Path.of("src/main/java/ForgivenStreet.java"));
        face();
        words(source);
        lengths(source);
        C.end("SourceTests");
    }

    private static void face() {
        C.part("rule 1");
        Set<String> due = new TreeSet<>(Set.of(FACE.split(" ")));
        Set<String> seen = new TreeSet<>();
        for (Method m : ForgivenStreet.class.getDeclaredMethods()) {
            if (Modifier.isPublic(m.getModifiers())) seen.add(m.getName());
            else C.holds(m + " is private and bears its own name", Modifier.isPrivate(m.getModifiers()) && !due.contains(m.getName()));
            C.holds(m + " has at most seven parameters", m.getParameterCount() <= 7);
        }
        C.holds("the methods are " + seen, seen.equals(due));
        C.holds("the class is public and final", (ForgivenStreet.class.getModifiers() & (Modifier.PUBLIC | Modifier.FINAL)) == (Modifier.PUBLIC | Modifier.FINAL));
        Set<String> constants = new HashSet<>(Set.of("BAD", "NOT", "FULL", "STATE", "VOID"));
        for (Field f : ForgivenStreet.class.getDeclaredFields()) {
            boolean isFace = constants.remove(f.getName());
            C.holds(f + " is as it should be", isFace ? Modifier.isPublic(f.getModifiers()) : Modifier.isPrivate(f.getModifiers()));
        }
        C.holds("all constants are there", constants.isEmpty());
        C.due("constructors", ForgivenStreet.class.getConstructors().length, 1);
        for (Class<?> inner : ForgivenStreet.class.getDeclaredClasses()) nested(inner, due);
        C.holds("at most twelve classes", ForgivenStreet.class.getDeclaredClasses().length < 12);
    }

    private static void nested(Class<?> inner, Set<String> face) {
        C.holds(inner + " is static", Modifier.isStatic(inner.getModifiers()));
        int fields = 0;
        for (Field f : inner.getDeclaredFields()) {
            if (!Modifier.isStatic(f.getModifiers())) fields++;
            else C.holds(f + " is final", Modifier.isFinal(f.getModifiers()));
        }
        C.holds(inner + " has at most twenty fields", fields <= 20);
        for (Method m : inner.getDeclaredMethods()) C.holds(m + " bears its own name", !face.contains(m.getName()));
        for (Constructor<?> c : inner.getDeclaredConstructors()) C.holds(c + " takes at most seven", c.getParameterCount() <= 7);
    }

    private static String bare(String source) {
        return source.replaceAll("(?s)/\\*.*?\\*/", "").replaceAll("//[^\n]*", "").replaceAll("'(\\\\.|[^'])'", "'c'");
    }

    private static void words(String source) {
        C.part("rules 3 to 6");
        String code = bare(source);
        for (String word : FORBIDDEN) {
            boolean isWord = Character.isLetter(word.charAt(0));
            Matcher m = Pattern.compile(isWord && !word.endsWith(")") && !word.endsWith("{") ? "\\b" + word + "\\b" : word).matcher(code);
            C.holds("no " + word, !m.find());
        }
        Matcher imports = Pattern.compile("import ([^;]+);").matcher(code);
        while (imports.find()) C.holds(imports.group(1), Set.of("java.util.Arrays", "java.util.ArrayList", "java.util.List").contains(imports.group(1)));
        Matcher statics = Pattern.compile("Math\\.(\\w+)").matcher(code);
        while (statics.find()) C.holds(statics.group(1), Set.of("max", "min", "abs").contains(statics.group(1)));
    }

    /** A method's head stands on one line and its last bracket under the head's first sign. */
    private static void lengths(String source) {
        C.part("rule 11");
        String[] lines = source.split("\n");
        int methods = 0;
        for (int i = 0; i < lines.length; i++) {
            Matcher head = Pattern.compile("^( {4}| {8})(?=\\S)[\\w\\[\\] ]*\\w+\\([^;]*\\) \\{$").matcher(lines[i]);
            if (!head.find()) continue;
            methods++;
            int end = i;
            while (!lines[end].equals(head.group(1) + "}")) end++;
            C.holds("line " + (i + 1) + " begins a method of at most sixty lines", end - i < 60);
        }
        C.holds("methods were seen", methods > 100);
    }
}
