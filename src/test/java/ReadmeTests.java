import java.io.IOException;
import java.lang.reflect.Method;
import java.lang.reflect.Modifier;
import java.nio.file.Files;
import java.nio.file.Path;
import java.util.Map;
import java.util.Set;
import java.util.TreeMap;
import java.util.TreeSet;
import java.util.regex.Matcher;
import java.util.regex.Pattern;

/** The examples of README.md are so, and it names all calls and refusals; run from the project's folder, as .ci/run does. */
public final class ReadmeTests {
    private static final Check C = new Check();
    private static final Pattern BLOCK = Pattern.compile("(?s)```java\n(.*?)```");
    private static final Pattern EXAMPLE = Pattern.compile("x\\.(\\w+)\\((.*?)\\); *// (-?\\d+)(: .+)?");
    private static final Pattern ROW = Pattern.compile("(?m)^\\| (`\\w+\\(.*?) \\|");
    private static final Pattern HEAD = Pattern.compile("`(\\w+)\\(([^)]*)\\)`");
    private static final String MADE = "ForgivenStreet x = new ForgivenStreet();";
    private static final Set<Long> REFUSALS = Set.of(-1L, -2L, -5L, -2000000000L, -11L, -12L, -13L, -14L, Long.MIN_VALUE);
    private static final Map<String, Method> FACE = new TreeMap<>();

    public static void main(String[] args) throws Exception {
        for (Method m : ForgivenStreet.class.getDeclaredMethods()) {
            if (Modifier.isPublic(m.getModifiers())) FACE.put(m.getName(), m);
        }
        String readme = Files.readString(Path.of("README.md"));
        examples(readme);
        calls(readme);
        refusals(readme);
        ways(readme);
        C.end("ReadmeTests");
    }

    private static void examples(String readme) throws ReflectiveOperationException {
        Set<String> asked = new TreeSet<>();
        Set<Long> answers = new TreeSet<>();
        Matcher block = BLOCK.matcher(readme);
        while (block.find()) {
            String[] lines = block.group(1).split("\n");
            C.holds("a block of examples begins with a new object", lines[0].equals(MADE));
            ForgivenStreet x = new ForgivenStreet();
            for (int i = 1; i < lines.length; i++) answers.add(example(x, lines[i], asked));
        }
        C.part("README.md");
        C.holds("examples of each call, not only of " + asked, asked.equals(FACE.keySet()));
        C.holds("an example of each refusal among " + answers, answers.containsAll(REFUSALS));
    }

    private static long example(ForgivenStreet x, String line, Set<String> asked) throws ReflectiveOperationException {
        C.part("README.md, " + line);
        Matcher m = EXAMPLE.matcher(line);
        boolean told = m.matches() && FACE.containsKey(m.group(1));
        C.holds("it is an example of a call", told);
        if (!told) return 0;
        Method call = FACE.get(m.group(1));
        String[] words = m.group(2).isEmpty() ? new String[0] : m.group(2).split(", ");
        C.due("arguments", words.length, call.getParameterCount());
        if (words.length != call.getParameterCount()) return 0;
        Object[] values = new Object[words.length];
        for (int i = 0; i < words.length; i++) {
            int v = words[i].charAt(0) == '\'' ? words[i].charAt(1) : Integer.parseInt(words[i]);
            if (call.getParameterTypes()[i] == long.class) values[i] = (long) v;
            else values[i] = v;
        }
        long answer = ((Number) call.invoke(x, values)).longValue();
        C.due("it", answer, Long.parseLong(m.group(3)));
        asked.add(m.group(1));
        return answer;
    }

    /** Each call has a row in a table of its group, with as many arguments as it takes. */
    private static void calls(String readme) {
        C.part("README.md, the tables of calls");
        Set<String> named = new TreeSet<>();
        Matcher row = ROW.matcher(readme);
        while (row.find()) {
            Matcher head = HEAD.matcher(row.group(1));
            while (head.find()) {
                String name = head.group(1);
                C.holds(name + " stands once", named.add(name));
                int takes = head.group(2).isEmpty() ? 0 : head.group(2).split(", ").length;
                C.holds(name + " is of the face", FACE.containsKey(name));
                if (FACE.containsKey(name)) C.due(name + " takes", takes, FACE.get(name).getParameterCount());
            }
        }
        C.holds("all calls are there, not only " + named, named.equals(FACE.keySet()));
    }

    private static void refusals(String readme) {
        C.part("README.md, what answers mean");
        String[] rows = {"| -1 | `BAD` |", "| -2 | `NOT` |", "| -3 | `FULL` |", "| -5 | `STATE` |", "| -2000000000 | `VOID` |",
            "| -11 | |", "| -12 | |", "| -13 | |", "| -14 | |", "| -100 less a place | |", "| `Long.MIN_VALUE` | |"};
        for (String row : rows) C.holds(row, readme.contains("\n" + row));
    }

    private static void ways(String readme) throws IOException {
        C.part("README.md, how to run");
        C.holds("for how many calls an object is good", readme.replace('\n', ' ').contains("**512 calls**"));
        C.holds("all tests", readme.contains("\n.ci/run\n"));
        C.holds("one by hand", readme.contains("\njava -cp out/own BoundsFolk\n"));
        try (var files = Files.list(Path.of("src/test/java"))) {
            files.map(f -> f.getFileName().toString()).filter(f -> f.endsWith(".java")).forEach(f -> {
                C.holds(f + " is told of", readme.contains("`" + f.replace(".java", "") + "`"));
            });
        }
    }
}
