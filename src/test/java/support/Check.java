/** Counts answers, and tells each that is not the one due. */
final class Check {
    private int asked = 0;
    private int wrong = 0;
    private String part = "";

    void part(String name) {
        part = name;
    }

    void due(String call, long got, long want) {
        asked++;
        if (got == want) return;
        wrong++;
        if (wrong <= 40) System.out.println(part + ": " + call + " answered " + got + ", due is " + want);
    }

    void holds(String what, boolean is) {
        due(what, is ? 1 : 0, 1);
    }

    void end(String name) {
        System.out.println(name + ": " + asked + " answers, " + wrong + " not as due");
        if (wrong != 0 || asked == 0) System.exit(1);
    }
}
