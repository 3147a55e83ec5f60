import java.lang.reflect.InvocationTargetException;
import java.lang.reflect.Method;
import java.util.ArrayList;
import java.util.Arrays;
import java.util.Comparator;
import java.util.List;
import java.util.Random;

/** Runs of drawn calls, each asked of the program and of the model; seeds are fixed, so a run can be run again. */
public final class ModelRuns {
    private static final int[] ODD = {-1, -2, -11, 12, 13, 40, 41, 60, 61, 99, 100, 999, 1000, Integer.MIN_VALUE, Integer.MAX_VALUE};
    private static final List<Method> FACE = new ArrayList<>();
    private final Check check;
    private final Random random;
    private final ForgivenStreet street = new ForgivenStreet();
    private final Model model = new Model();
    private final int flavour;
    private int people = 0, wrongs = 0, bodies = 0, left = 512;

    private ModelRuns(Check check, int seed) {
        this.check = check;
        this.random = new Random(seed);
        this.flavour = seed % 6;
    }

    public static void main(String[] args) throws Exception {
        for (Method m : ForgivenStreet.class.getDeclaredMethods()) {
            if (java.lang.reflect.Modifier.isPublic(m.getModifiers())) FACE.add(m);
        }
        FACE.sort(Comparator.comparing(Method::getName));
        Check check = new Check();
        int runs = args.length > 0 ? Integer.parseInt(args[0]) : 600;
        int from = args.length > 1 ? Integer.parseInt(args[1]) : 0;
        for (int seed = from; seed < from + runs; seed++) {
            check.part("seed " + seed);
            new ModelRuns(check, seed).go();
        }
        check.end("ModelRuns");
    }

    private void go() throws Exception {
        if (flavour != 0) settle();
        while (left > 0) {
            if (random.nextInt(25) == 0) feedText();
            else if (random.nextInt(25) == 0) paintTruth();
            else if (random.nextInt(30) == 0) fillCalls(random.nextInt(6));
            else if (random.nextInt(40) == 0) sortStreet();
            else if (random.nextInt(60) == 0) fillWrongs(random.nextInt(6));
            else if (random.nextInt(40) == 0) shareRows();
            else if (random.nextInt(40) == 0) takeTurns();
            else {
                Method m = FACE.get(random.nextInt(FACE.size()));
                ask(m, argsFor(m));
            }
        }
    }

    private void settle() throws Exception {
        int many = 2 + random.nextInt(9);
        for (int p = 0; p < many; p++) ask("person", random.nextInt(flavour == 1 ? 3 : 12));
        int most = 1 + random.nextInt(12);
        for (int w = 0; w < most; w++) ask("wrong", random.nextInt(many) * 10 + random.nextInt(many), 1 + random.nextInt(9));
        for (int p = 0; p < many; p++) ask("mend", p, 2, random.nextInt(13));
        if (random.nextBoolean()) for (int h = 0; h < 12; h++) ask("mend", h, 0, random.nextInt(flavour == 2 ? 1000 : 12));
        for (int b = 0; b < 10; b++) ask("body", random.nextInt(8));
    }

    /** Rising numbers with few breaks, so that FEWEST has something to find. */
    private void sortStreet() throws Exception {
        int v = random.nextInt(5);
        for (int h = 0; h < 12; h++) {
            ask("mend", h, 0, Math.max(0, v - (random.nextInt(7) == 0 ? random.nextInt(12) : 0)));
            v += random.nextInt(3) == 0 ? random.nextInt(10) : 0;
        }
        ask("fewest", -1);
        ask("fewest", 0);
        ask("fewest", 1);
        ask("run", 1);
    }

    private void fillCalls(int shelf) throws Exception {
        int n = random.nextInt(20);
        ask("row", shelf, 1, n);
        for (int i = 0; i < n; i++) {
            ask("put", shelf, i, (long) (random.nextInt(20) == 0 ? -1 : random.nextInt(12 * Math.max(1, wrongs)) + random.nextInt(8) / 7 * 12));
        }
    }

    /** Threes of bytes, most of them so, at times with one too few at the end. */
    private void fillWrongs(int shelf) throws Exception {
        int n = 1 + random.nextInt(14);
        ask("row", shelf, 0, n);
        int folk = Math.max(1, people);
        for (int i = 0; i < n; i++) {
            ask("put", shelf, i, (long) (i % 3 == 2 ? 1 + random.nextInt(9) + random.nextInt(15) / 14 * 9 : random.nextInt(folk)));
        }
        ask("wrongs", shelf, random.nextInt(4) == 0 ? 3 : 0, 1 + random.nextInt(5));
        ask("wrongs", shelf, random.nextInt(n + 6) - 6, 1 + random.nextInt(12));
    }

    private void takeTurns() throws Exception {
        int folk = Math.max(2, people);
        for (int k = 0; k < 4; k++) {
            int ab = random.nextInt(folk) * 10 + random.nextInt(folk);
            ask("byTurns", ab, 3 + random.nextInt(2), 0);
            ask("byTurns", ab, 3 + random.nextInt(2), 1);
        }
    }

    private void shareRows() throws Exception {
        int sort = random.nextInt(5), one = random.nextInt(6), other = random.nextInt(6);
        ask("row", one, sort, 10);
        for (int i = 0; i < 10; i++) ask("put", one, i, random.nextLong());
        if (random.nextBoolean()) ask("row", other, sort, 8);
        for (int k = 0; k < 3; k++) ask("shift", one, random.nextInt(6), other, random.nextInt(6), random.nextInt(7) - 1);
        for (int i = 0; i < 10; i++) ask("element", other, i);
    }

    /** Paints what the model holds to be so, then judges and fits. */
    private void paintTruth() throws Exception {
        int calls = random.nextInt(6), painted = random.nextInt(6);
        fillCalls(calls);
        int house = random.nextInt(12), n = random.nextInt(24);
        if (random.nextInt(4) > 0) n = Math.min(n, 6);
        long[] truth = new long[n];
        for (int i = 0; i < n; i++) truth[i] = model.later(calls, Math.min(40, i), house);
        ask("row", painted, 1, n);
        for (int i = 0; i < n; i++) ask("put", painted, i, truth[i]);
        int ss = calls * 10 + painted;
        ask("judge", ss, house);
        for (int what = 0; what < 4; what++) ask("fits", ss, house, random.nextInt(1 + Math.max(people, wrongs)), what);
    }

    private void feedText() throws Exception {
        String text = random.nextInt(6) == 0 ? noise() : lines();
        if (random.nextInt(4) == 0 && text.length() > 0) {
            int at = random.nextInt(text.length());
            text = text.substring(0, at) + letter() + text.substring(at + random.nextInt(2));
        }
        ask("law");
        for (int i = 0; i < text.length(); i++) ask("feed", (int) text.charAt(i));
        ask("law");
    }

    private char letter() {
        String letters = "wahsno0123456789|&<=>+-*/%!();?x \u00ff";
        return letters.charAt(random.nextInt(letters.length()));
    }

    private String noise() {
        StringBuilder sb = new StringBuilder();
        int n = random.nextInt(12);
        for (int i = 0; i < n; i++) sb.append(letter());
        return sb.toString();
    }

    private String lines() {
        StringBuilder sb = new StringBuilder();
        int n = 1 + random.nextInt(3);
        for (int i = 0; i < n; i++) {
            if (i > 0) sb.append(';');
            if (random.nextInt(3) > 0) sb.append(expression(2)).append('?');
            sb.append(expression(2));
        }
        return sb.length() > 121 ? sb.substring(0, 121) : sb.toString();
    }

    private String expression(int depth) {
        StringBuilder sb = new StringBuilder(operand(depth));
        int n = random.nextInt(3);
        for (int i = 0; i < n; i++) sb.append("|&<=>+-*/%+-*".charAt(random.nextInt(13))).append(operand(depth));
        return sb.toString();
    }

    private String operand(int depth) {
        int pick = random.nextInt(12);
        if (depth > 0 && pick == 0) return "(" + expression(depth - 1) + ")";
        if (pick == 1) return "!" + operand(depth);
        if (pick == 2) return "-" + operand(depth);
        if (pick < 6) return "" + random.nextInt(random.nextBoolean() ? 10 : 10000);
        return "" + "wahsno".charAt(random.nextInt(6));
    }

    private Object[] argsFor(Method m) {
        Class<?>[] types = m.getParameterTypes();
        Object[] args = new Object[types.length];
        for (int i = 0; i < args.length; i++) {
            if (types[i] == long.class) args[i] = random.nextBoolean() ? random.nextLong() : (long) random.nextInt(150);
            else if (random.nextInt(14) == 0) args[i] = ODD[random.nextInt(ODD.length)];
            else args[i] = usual(m.getName(), i);
        }
        if (m.getName().equals("mend") && random.nextInt(5) > 0) return mending();
        if (m.getName().equals("shift") && random.nextInt(2) > 0) args[2] = args[0];
        return args;
    }

    private Object[] mending() {
        int what = random.nextInt(7);
        int[] numbers = {12, Math.max(1, people), Math.max(1, people), Math.max(1, wrongs), Math.max(1, wrongs), Math.max(1, wrongs), 1};
        int[] most = {random.nextBoolean() ? 1002 : 20, 13, 14, 11, 101, 3, 101};
        return new Object[] {random.nextInt(numbers[what]), what, random.nextInt(most[what])};
    }

    private int usual(String name, int i) {
        switch (name) {
            case "person": case "slam": case "all": return random.nextInt(12);
            case "wrong": return i == 0 ? random.nextInt(Math.max(1, people)) * 10 + random.nextInt(Math.max(1, people)) : random.nextInt(11);
            case "feed": return letter();
            case "counts": case "call": return i == 0 ? random.nextInt(1 + wrongs) : random.nextInt(12);
            case "again": return random.nextInt(1 + wrongs);
            case "owes": case "chosen": return random.nextInt(1 + people);
            case "byTurns": return i == 0 ? random.nextInt(Math.max(1, people)) * 10 + random.nextInt(Math.max(1, people)) : i == 1 ? random.nextInt(6) : random.nextInt(2);
            case "drawn": return i == 0 ? random.nextInt() : i == 1 ? random.nextInt(32) * 100 + random.nextInt(42) : random.nextInt(14) - 1;
            case "judge": case "fits": return i == 0 ? random.nextInt(6) * 10 + random.nextInt(6) : i == 1 ? random.nextInt(12) : random.nextInt(4);
            case "later": case "street": return i == 0 ? random.nextInt(6) : i == 1 ? random.nextInt(42) : random.nextInt(5);
            case "post": case "nearest": return i == 0 && name.equals("post") ? random.nextInt(12) : random.nextInt(40);
            case "fewest": return random.nextInt(4) - 1;
            case "days": return 1 + random.nextInt(random.nextInt(3) == 0 ? 99 : 4);
            case "act": return i == 0 ? random.nextInt(1 + bodies) : i == 1 ? random.nextInt(4) : random.nextInt();
            case "trace": return random.nextInt(16);
            case "body": case "taken": return i == 0 && name.equals("taken") ? random.nextInt(6) : random.nextInt(8);
            case "keep": return i == 0 ? random.nextInt(6) : random.nextInt(2 + bodies) - 1;
            case "row": return i == 0 ? random.nextInt(6) : i == 1 ? random.nextInt(6) : random.nextInt(62);
            case "put": case "element": return i == 0 ? random.nextInt(6) : random.nextInt(30);
            case "shift": return i == 0 || i == 2 ? random.nextInt(6) : random.nextInt(20);
            case "wrongs": return i == 0 ? random.nextInt(6) : i == 1 ? random.nextInt(24) - 4 : random.nextInt(13);
            case "run": case "evening": return random.nextInt(3);
            case "count": case "led": return random.nextInt(7);
            default: return random.nextInt(10);
        }
    }

    private void ask(String name, Object... args) throws Exception {
        for (Method m : FACE) if (m.getName().equals(name)) ask(m, args);
    }

    private void ask(Method m, Object[] args) throws Exception {
        if (left-- <= 0) return;
        Method twin = Model.class.getDeclaredMethod(m.getName(), m.getParameterTypes());
        long want = ((Number) twin.invoke(model, args)).longValue();
        String call = m.getName() + Arrays.toString(args) + " as call " + (512 - left);
        long got;
        try {
            got = ((Number) m.invoke(street, args)).longValue();
        } catch (InvocationTargetException e) {
            check.holds(call + " threw " + e.getCause(), false);
            return;
        }
        check.due(call, got, want);
        people = model.count(0);
        wrongs = model.count(1);
        bodies = model.count(4);
    }
}
