import java.util.HashSet;
import java.util.Set;
import java.util.TreeSet;
import java.util.regex.Matcher;
import java.util.regex.Pattern;

/** Counts answers, and tells each that is not the one due. */
final class Check {
    private static final Pattern PROMISE = Pattern.compile("promise (\\d+)");
    private final Set<String> names = new HashSet<>();
    private final Set<Integer> promises = new TreeSet<>();
    private int asked = 0;
    private int wrong = 0;
    private String part = "";

    void part(String name) {
        part = name;
    }

    /** A test of one case; its name tells the promise and the case, and no other test bears it. */
    void test(String name, Runnable body) {
        part(name);
        holds("the name stands once", names.add(name));
        Matcher m = PROMISE.matcher(name);
        while (m.find()) promises.add(Integer.parseInt(m.group(1)));
        int before = asked;
        body.run();
        holds("something is asked", asked > before);
    }

    void due(String call, long got, long want) {
        asked++;
        if (got == want) return;
        tell(call + " answered " + got + ", due is " + want);
    }

    void same(String what, String got, String want) {
        asked++;
        if (got.equals(want)) return;
        tell(what + " is\n  " + got + "\nand not\n  " + want);
    }

    private void tell(String fault) {
        wrong++;
        if (wrong <= 40) System.out.println(part + ": " + fault);
    }

    void holds(String what, boolean is) {
        due(what, is ? 1 : 0, 1);
    }

    /** Every promise of the told ones has a test that names it. */
    void named(int... due) {
        part("named promises");
        for (int promise : due) holds("promise " + promise + " is named", promises.contains(promise));
    }

    void end(String name) {
        System.out.println(name + ": " + (names.isEmpty() ? "" : names.size() + " tests, ") + asked + " answers, " + wrong + " not as due");
        if (wrong != 0 || asked == 0) System.exit(1);
    }
}
