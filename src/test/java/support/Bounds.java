import java.util.Set;
import java.util.TreeSet;
import java.util.function.Supplier;

/** Asks for the ends of what is taken, and that a refused call changes nothing that a later call shows. */
final class Bounds {
    static final int BAD = -1, NOT = -2, FULL = -3, STATE = -5, VOID = -2000000000;
    static final int MIN = Integer.MIN_VALUE, MAX = Integer.MAX_VALUE;
    /** An int from outside that is below 0, the least, the largest. */
    static final int[] OUTER = {-1, MIN, MIN + 1, MAX - 1, MAX};

    interface Call {
        long on(ForgivenStreet x);
    }

    interface CallWith {
        long on(ForgivenStreet x, int v);
    }

    private final Check check;

    Bounds(Check check) {
        this.check = check;
    }

    /** From least to most all is taken; the next on both sides and the OUTER ones are refused, and change nothing. */
    void ends(String name, Supplier<ForgivenStreet> made, long refusal, int least, int most, CallWith call) {
        check.test(name + ": " + least + " and " + most + " are taken", () -> {
            for (int v = least; v <= most; v++) {
                check.holds("the call with " + v + " is not refused", call.on(made.get(), v) != refusal);
            }
        });
        for (int v : beyond(least, most)) {
            check.test(name + ": " + v + " is refused", () -> refusedNow(made, refusal, x -> call.on(x, v)));
        }
    }

    private static Set<Integer> beyond(int least, int most) {
        Set<Integer> all = new TreeSet<>(Set.of(least - 1, most + 1));
        for (int v : OUTER) if (v < least || v > most) all.add(v);
        return all;
    }

    /** Each call is answered so, and changes nothing. */
    void refused(String name, Supplier<ForgivenStreet> made, long answer, Call... calls) {
        check.test(name, () -> refusedNow(made, answer, calls));
    }

    private void refusedNow(Supplier<ForgivenStreet> made, long answer, Call... calls) {
        String before = Seen.of(made.get());
        for (int i = 0; i < calls.length; i++) {
            ForgivenStreet x = made.get();
            check.due("call " + i, calls[i].on(x), answer);
            check.same("what is seen after call " + i, Seen.of(x), before);
        }
    }

    /** The calls may answer what they like, and change nothing. */
    void idle(String name, Supplier<ForgivenStreet> made, Call... calls) {
        check.test(name, () -> {
            String before = Seen.of(made.get());
            ForgivenStreet x = made.get();
            for (Call call : calls) call.on(x);
            check.same("what is seen after the calls", Seen.of(x), before);
        });
    }
}
