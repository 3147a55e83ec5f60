/** The boundary cases of deeds, images and changes: promises 25 to 33. */
public final class BoundsDeeds {
    private static final int BAD = Bounds.BAD, STATE = Bounds.STATE, VOID = Bounds.VOID;
    private static final int MIN = Bounds.MIN, MAX = Bounds.MAX;
    private static final Check C = new Check();
    private static final Bounds B = new Bounds(C);

    public static void main(String[] args) {
        call();
        again();
        days();
        slam();
        led();
        image();
        back();
        undo();
        redo();
        fortyChanges();
        changesOfAllSorts();
        deedsAreNoChanges();
        C.named(25, 26, 27, 28, 29, 30, 31, 32, 33);
        C.end("BoundsDeeds");
    }

    private static void call() {
        B.ends("promise 25, WRONG of five", Streets::rich, BAD, 0, 4, (x, v) -> x.call(v, 0));
        B.ends("promise 25, WRONG of twelve", Streets::fullOfWrongs, BAD, 0, 11, (x, v) -> x.call(v, 0));
        B.ends("promise 25, HOUSE 0 .. 11", Streets::rich, BAD, 0, 11, (x, v) -> x.call(0, v));
        B.refused("promise 25: there is no WRONG", ForgivenStreet::new, BAD, x -> x.call(0, 0), x -> x.call(-1, 0), x -> x.call(MAX, 0));
        C.test("promise 25: FORGIVEN already: it counts for nothing, nothing else changes", () -> {
            ForgivenStreet x = Streets.wronged(1, 9);
            C.due("the first", x.call(0, 3), 9);
            C.due("the second", x.call(0, 3), 0);
            C.due("elsewhere", x.call(0, 4), 0);
            C.due("NUMBER", x.of(3, 0) * 10 + x.of(4, 0), 90);
            C.due("FORGIVEN", x.of(0, 5), 1);
            C.due("that counted", x.led(0), 1);
            C.due("for nothing", x.led(1), 2);
            C.due("how much", x.led(2), 9);
        });
        C.test("promise 25: it counts 0: it is not FORGIVEN", () -> {
            ForgivenStreet x = Streets.wronged(1, 9);
            Streets.enact(x, "n");
            C.due("counts 0", x.call(0, 3), 0);
            C.due("FORGIVEN", x.of(0, 5), 0);
            C.due("for nothing", x.led(1), 1);
            x.mend(3, 0, 1);
            C.due("counts 1", x.call(0, 3), 1);
            C.due("FORGIVEN", x.of(0, 5), 1);
        });
        C.test("promise 25: NUMBER 999 at most", () -> {
            for (int[] d : new int[][] {{989, 998}, {990, 999}, {991, 999}, {998, 999}, {999, 999}}) {
                ForgivenStreet x = Streets.wronged(1, 9);
                x.mend(11, 0, d[0]);
                C.due("how much it counted", x.call(0, 11), 9);
                C.due("NUMBER from " + d[0], x.of(11, 0), d[1]);
                C.due("FORGIVEN", x.of(0, 5), 1);
                C.due("how much", x.led(2), 9);
            }
        });
        C.test("promise 25: 1 and 9, the least and the most that counts", () -> {
            C.due("1", Streets.wronged(1, 1).call(0, 0), 1);
            C.due("9", Streets.wronged(1, 9).call(0, 0), 9);
        });
    }

    private static ForgivenStreet forgiven(int many) {
        ForgivenStreet x = Streets.wronged(many, 4);
        for (int w = 0; w < many; w++) x.call(w, 3);
        return x;
    }

    private static void again() {
        B.ends("promise 26, WRONG of three", () -> forgiven(3), BAD, 0, 2, (x, v) -> x.again(v));
        B.ends("promise 26, WRONG of twelve", () -> forgiven(12), BAD, 0, 11, (x, v) -> x.again(v));
        B.refused("promise 26: there is no WRONG: BAD, not STATE", ForgivenStreet::new, BAD, x -> x.again(0), x -> x.again(-1), x -> x.again(MAX));
        B.refused("promise 26: BAD is ahead of STATE", () -> Streets.wronged(2, 4), BAD, x -> x.again(2), x -> x.again(-1));
        B.refused("promise 26, STATE: it is not FORGIVEN", () -> Streets.wronged(2, 4), STATE, x -> x.again(0), x -> x.again(1));
        C.test("promise 26, STATE: done again it is not FORGIVEN", () -> {
            ForgivenStreet x = forgiven(1);
            C.due("once", x.again(0), 0);
            C.due("twice", x.again(0), STATE);
            C.due("led once", x.led(3), 1);
        });
        C.test("promise 26: DAY it had, 0 and 99; DAY is TODAY then", () -> {
            ForgivenStreet x = forgiven(2);
            x.mend(1, 4, 99);
            x.mend(0, 6, 98);
            C.due("0", x.again(0), 0);
            C.due("99", x.again(1), 99);
            C.due("DAYS", x.of(0, 4) * 100 + x.of(1, 4), 9898);
            C.due("FORGIVEN", x.of(0, 5) + x.of(1, 5), 0);
        });
        C.test("promise 26: NUMBER stays, and it may be forgiven once more", () -> {
            ForgivenStreet x = forgiven(1);
            x.again(0);
            C.due("NUMBER", x.of(3, 0), 4);
            C.due("call", x.call(0, 3), 4);
            C.due("NUMBER", x.of(3, 0), 8);
        });
        C.test("promise 26: FORGIVEN by mend() is FORGIVEN", () -> {
            ForgivenStreet x = Streets.wronged(1, 4);
            x.mend(0, 5, 1);
            C.due("again", x.again(0), 0);
        });
    }

    private static void days() {
        B.ends("promise 27, n 1 .. 99", Streets::rich, BAD, 1, 99, (x, v) -> x.days(v));
        C.test("promise 27: TODAY 99 at most", () -> {
            ForgivenStreet x = new ForgivenStreet();
            C.due("98", x.days(98), 98);
            C.due("99", x.days(1), 99);
            C.due("99 stays", x.days(1), 99);
            C.due("99 stays", x.days(99), 99);
            C.due("TODAY", x.of(0, 6), 99);
        });
        C.test("promise 27: past 99 from below", () -> {
            ForgivenStreet x = new ForgivenStreet();
            x.days(1);
            C.due("from 1 by 99", x.days(99), 99);
            ForgivenStreet y = new ForgivenStreet();
            C.due("from 0 by 99", y.days(99), 99);
        });
        C.test("promise 27: DAYS of WRONGS stay", () -> {
            ForgivenStreet x = Streets.wronged(1, 4);
            x.days(99);
            C.due("DAY", x.of(0, 4), 0);
        });
    }

    private static void slam() {
        B.ends("promise 28, HOUSE 0 .. 11", Streets::rich, BAD, 0, 11, (x, v) -> x.slam(v));
        C.test("promise 28: NUMBER one less, 0 at least", () -> {
            ForgivenStreet x = new ForgivenStreet();
            x.mend(11, 0, 2);
            C.due("1", x.slam(11), 1);
            C.due("0", x.slam(11), 0);
            C.due("0 stays", x.slam(11), 0);
            C.due("NUMBER", x.of(11, 0), 0);
            C.due("led, each of them", x.led(5), 3);
        });
        C.test("promise 28: from 999", () -> {
            ForgivenStreet x = new ForgivenStreet();
            x.mend(0, 0, 999);
            C.due("998", x.slam(0), 998);
        });
        C.test("promise 28: the others stay", () -> {
            ForgivenStreet x = new ForgivenStreet();
            Streets.numbers(x, 5, 5, 5);
            x.slam(1);
            C.due("NUMBERS", x.of(0, 0) * 100 + x.of(1, 0) * 10 + x.of(2, 0), 545);
        });
    }

    private static void ledAs(String name, ForgivenStreet x, int... due) {
        for (int what = 0; what < 6; what++) C.due(name + ", what " + what, x.led(what), due[what]);
    }

    private static void led() {
        B.ends("promise 29, what 0 .. 5", Streets::rich, BAD, 0, 5, (x, v) -> x.led(v));
        C.test("promise 29: nothing is led at first", () -> ledAs("new", new ForgivenStreet(), 0, 0, 0, 0, 0, 0));
        C.test("promise 29: each deed is led at its place alone", () -> {
            ForgivenStreet x = Streets.wronged(2, 4);
            x.call(0, 0);
            ledAs("a call that counted", x, 1, 0, 4, 0, 0, 0);
            x.call(0, 0);
            ledAs("one for nothing", x, 1, 1, 4, 0, 0, 0);
            x.again(0);
            ledAs("done again", x, 1, 1, 4, 1, 0, 0);
            x.days(7);
            ledAs("days", x, 1, 1, 4, 1, 7, 0);
            x.slam(0);
            ledAs("slammed", x, 1, 1, 4, 1, 7, 1);
            x.call(1, 11);
            ledAs("another call", x, 2, 1, 8, 1, 7, 1);
        });
        C.test("promise 29, days: as told, also past TODAY 99", () -> {
            ForgivenStreet x = new ForgivenStreet();
            x.days(99);
            x.days(99);
            x.days(1);
            C.due("days", x.led(4), 199);
        });
        C.test("promise 29: the last of 512 calls tells what 511 deeds came to", () -> {
            ForgivenStreet x = new ForgivenStreet();
            for (int i = 0; i < 511; i++) x.days(99);
            C.due("days", x.led(4), 511 * 99);
            ForgivenStreet y = new ForgivenStreet();
            for (int i = 0; i < 511; i++) y.slam(11);
            C.due("slammed", y.led(5), 511);
            ForgivenStreet z = Streets.wronged(1, 9);
            for (int i = 0; i < 253; i++) {
                z.call(0, 3);
                z.again(0);
            }
            C.due("how much", z.led(2), 253 * 9);
        });
        C.test("promise 29: refused deeds are not led", () -> {
            ForgivenStreet x = Streets.wronged(1, 4);
            x.call(1, 0);
            x.call(0, 12);
            x.call(-1, -1);
            x.again(0);
            x.again(1);
            x.days(0);
            x.days(100);
            x.slam(12);
            x.slam(-1);
            ledAs("refused", x, 0, 0, 0, 0, 0, 0);
        });
        C.test("promise 29: what is only thought, mended, undone is not led", () -> {
            ForgivenStreet x = Streets.wronged(2, 4);
            Streets.fill(x, 0, 1, 0, 0);
            x.street(0, 2, 0);
            x.all(0);
            x.drawn(1, 3040, 0);
            x.mend(0, 5, 1);
            x.mend(0, 6, 9);
            x.undo();
            x.redo();
            ledAs("thought", x, 0, 0, 0, 0, 0, 0);
        });
    }

    private static void image() {
        C.test("promise 30: an image of a new object: 0", () -> {
            ForgivenStreet x = new ForgivenStreet();
            C.due("image", x.image(), 0);
            C.due("back", x.back(), 0);
        });
        C.test("promise 30: CALLS that counted, those for nothing not", () -> {
            ForgivenStreet x = forgiven(12);
            x.call(0, 3);
            C.due("image", x.image(), 12);
        });
        C.test("promise 30: a later image takes the place of the one ahead", () -> {
            ForgivenStreet x = Streets.wronged(2, 4);
            x.image();
            x.call(0, 3);
            C.due("image", x.image(), 1);
            x.call(1, 3);
            C.due("back", x.back(), 1);
            C.due("NUMBER", x.of(3, 0), 4);
        });
        B.idle("promise 30: an image laid back at once changes nothing", () -> {
            ForgivenStreet x = Streets.rich();
            x.image();
            return x;
        }, x -> x.image(), x -> x.back());
    }

    private static void back() {
        B.refused("promise 31, STATE: there is none", () -> Streets.wronged(2, 4), STATE, x -> x.back());
        C.test("promise 31, STATE: again and again", () -> {
            ForgivenStreet x = new ForgivenStreet();
            C.due("once", x.back(), STATE);
            C.due("twice", x.back(), STATE);
            x.image();
            C.due("there is one", x.back(), 0);
            C.due("it stays", x.back(), 0);
        });
        C.test("promise 31: NUMBERS of all twelve HOUSES", () -> {
            ForgivenStreet x = new ForgivenStreet();
            for (int h = 0; h < 12; h++) x.mend(h, 0, 999 - h);
            x.image();
            for (int h = 0; h < 12; h++) x.slam(h);
            x.back();
            for (int h = 0; h < 12; h++) C.due("NUMBER " + h, x.of(h, 0), 999 - h);
        });
        C.test("promise 31: FORGIVEN and DAYS of all twelve WRONGS", () -> {
            ForgivenStreet x = forgiven(12);
            x.image();
            x.days(99);
            for (int w = 0; w < 12; w++) x.again(w);
            x.back();
            for (int w = 0; w < 12; w++) C.due("DAY, FORGIVEN of " + w, x.of(w, 4) * 10 + x.of(w, 5), 1);
        });
        C.test("promise 31: not FORGIVEN is laid back, too", () -> {
            ForgivenStreet x = Streets.wronged(12, 4);
            x.image();
            for (int w = 0; w < 12; w++) x.call(w, 0);
            x.back();
            for (int w = 0; w < 12; w++) C.due("FORGIVEN of " + w, x.of(w, 5), 0);
        });
        C.test("promise 31: TODAY and all that LED tells", () -> {
            ForgivenStreet x = Streets.wronged(2, 4);
            x.call(0, 0);
            x.call(0, 0);
            x.again(0);
            x.days(5);
            x.slam(0);
            x.image();
            x.call(0, 0);
            x.call(0, 0);
            x.again(0);
            x.days(94);
            x.slam(0);
            C.due("CALLS that counted", x.back(), 1);
            C.due("TODAY", x.of(0, 6), 5);
            ledAs("led", x, 1, 1, 4, 1, 5, 1);
        });
        C.test("promise 31: WRONGS that came since are as they are, from the first to the twelfth", () -> {
            for (int kept : new int[] {0, 1, 11}) {
                ForgivenStreet x = Streets.wronged(kept, 4);
                x.image();
                x.days(50);
                while (x.count(1) < 12) x.wrong(1, 5);
                for (int w = 0; w < 12; w++) x.mend(w, 5, 1);
                for (int w = 0; w < 12; w++) x.mend(w, 4, 60);
                x.back();
                C.due("count(1)", x.count(1), 12);
                for (int w = 0; w < 12; w++) {
                    C.due("FORGIVEN of " + w, x.of(w, 5), w < kept ? 0 : 1);
                    C.due("DAY of " + w, x.of(w, 4), w < kept ? 0 : 60);
                    C.due("WEIGHT of " + w, x.of(w, 3), w < kept ? 4 : 5);
                }
                C.due("TODAY", x.of(0, 6), 0);
            }
        });
        C.test("promise 31: it keeps no HOUSE, HEART, WEIGHT", () -> {
            ForgivenStreet x = Streets.wronged(1, 4);
            x.image();
            x.mend(0, 1, 11);
            x.mend(0, 2, 12);
            x.mend(0, 3, 9);
            x.person(5);
            x.back();
            C.due("HOUSE", x.of(0, 1), 11);
            C.due("HEART", x.of(0, 2), 12);
            C.due("WEIGHT", x.of(0, 3), 9);
            C.due("PEOPLE", x.count(0), 4);
        });
        C.test("promise 31: it is laid back as often as is wished, and is not changed by deeds", () -> {
            ForgivenStreet x = forgiven(1);
            x.image();
            for (int k = 0; k < 3; k++) {
                x.slam(3);
                x.again(0);
                x.days(9);
                C.due("back", x.back(), 1);
                C.due("NUMBER", x.of(3, 0), 4);
                C.due("FORGIVEN", x.of(0, 5), 1);
                C.due("TODAY", x.of(0, 6), 0);
            }
        });
    }

    private static void undo() {
        B.refused("promise 32, STATE: none at first", () -> Streets.wronged(2, 4), STATE, x -> x.undo());
        B.refused("promise 32, STATE: none any more", () -> {
            ForgivenStreet x = Streets.weighing();
            x.mend(0, 0, 5);
            x.undo();
            return x;
        }, STATE, x -> x.undo());
        C.test("promise 32: all numbers of mend(), the latest first, how many may still be", () -> {
            ForgivenStreet x = Streets.wronged(1, 4);
            int[] first = {0, 0, 6, 4, 0, 0, 0};
            int[] most = {999, 11, 12, 9, 99, 1, 99};
            for (int what = 0; what < 7; what++) x.mend(0, what, most[what]);
            for (int what = 6; what >= 0; what--) {
                C.due("undo", x.undo(), what);
                C.due("what " + what, x.of(0, what), first[what]);
                if (what > 0) C.due("the one ahead stays", x.of(0, what - 1), most[what - 1]);
            }
            C.due("none", x.undo(), STATE);
        });
        C.test("promise 32: telling the same number is no change", () -> {
            ForgivenStreet x = Streets.wronged(1, 4);
            int[] first = {0, 0, 6, 4, 0, 0, 0};
            for (int what = 0; what < 7; what++) C.due("mend", x.mend(0, what, first[what]), first[what]);
            C.due("count(3)", x.count(3), 0);
            C.due("undo", x.undo(), STATE);
            x.mend(0, 0, 5);
            x.mend(0, 0, 5);
            C.due("one", x.count(3), 1);
        });
        C.test("promise 32: a refused mend() is no change", () -> {
            ForgivenStreet x = Streets.wronged(1, 4);
            for (int bad : new int[] {-1, 1000, MIN, MAX}) C.due("mend", x.mend(0, 0, bad), VOID);
            C.due("undo", x.undo(), STATE);
        });
    }

    private static ForgivenStreet undone(int changes, int undos) {
        ForgivenStreet x = Streets.wronged(1, 4);
        for (int v = 1; v <= changes; v++) x.mend(0, 0, v);
        for (int i = 0; i < undos; i++) x.undo();
        return x;
    }

    private static void redo() {
        B.refused("promise 33, STATE: none at first", () -> Streets.wronged(2, 4), STATE, x -> x.redo());
        B.refused("promise 33, STATE: none is undone", () -> undone(2, 0), STATE, x -> x.redo());
        C.test("promise 33: how many may still be, until none", () -> {
            ForgivenStreet x = undone(3, 3);
            for (int k = 1; k <= 3; k++) {
                C.due("redo", x.redo(), 3 - k);
                C.due("NUMBER", x.of(0, 0), k);
            }
            C.due("none", x.redo(), STATE);
        });
        C.test("promise 33: all numbers of mend()", () -> {
            ForgivenStreet x = Streets.wronged(1, 4);
            int[] most = {999, 11, 12, 9, 99, 1, 99};
            for (int what = 0; what < 7; what++) x.mend(0, what, most[what]);
            for (int what = 0; what < 7; what++) x.undo();
            for (int what = 0; what < 7; what++) {
                C.due("redo", x.redo(), 6 - what);
                C.due("what " + what, x.of(0, what), most[what]);
            }
        });
        B.refused("promise 33, STATE: another change came behind", () -> {
            ForgivenStreet x = undone(3, 2);
            x.mend(5, 0, 7);
            return x;
        }, STATE, x -> x.redo());
        C.test("promise 33: another change behind, and it may be undone and done again", () -> {
            ForgivenStreet x = undone(3, 2);
            x.mend(5, 0, 7);
            C.due("two may be undone", x.count(3), 2);
            C.due("undo", x.undo(), 1);
            C.due("redo", x.redo(), 0);
            C.due("NUMBER", x.of(5, 0), 7);
            C.due("none", x.redo(), STATE);
        });
        C.test("promise 33: the same number and a refused one are no other change", () -> {
            ForgivenStreet x = undone(3, 2);
            x.mend(0, 0, 1);
            x.mend(0, 0, 1000);
            x.mend(12, 0, 1);
            C.due("redo", x.redo(), 1);
            C.due("NUMBER", x.of(0, 0), 2);
        });
        C.test("promise 33: deeds, people, wrongs, an image are no other change", () -> {
            ForgivenStreet x = undone(3, 2);
            x.call(0, 5);
            x.days(3);
            x.slam(5);
            x.again(0);
            x.person(3);
            x.wrong(1, 3);
            x.image();
            x.back();
            C.due("redo", x.redo(), 1);
            C.due("redo", x.redo(), 0);
            C.due("NUMBER", x.of(0, 0), 3);
        });
    }

    private static void fortyChanges() {
        C.test("promise 32: 39, 40, and of 41 and 80 the latest 40 are kept", () -> {
            for (int[] d : new int[][] {{39, 39}, {40, 40}, {41, 40}, {80, 40}}) C.due(d[0] + " changes", undone(d[0], 0).count(3), d[1]);
        });
        C.test("promise 32: forty may be undone, to where the oldest kept began", () -> {
            for (int many : new int[] {40, 41, 79, 80}) {
                ForgivenStreet x = undone(many, 0);
                for (int k = 39; k >= 0; k--) C.due("undo", x.undo(), k);
                C.due("NUMBER", x.of(0, 0), many - 40);
                C.due("none", x.undo(), STATE);
                C.due("NUMBER", x.of(0, 0), many - 40);
            }
        });
        C.test("promise 33: forty may be done again", () -> {
            ForgivenStreet x = undone(45, 40);
            for (int k = 39; k >= 0; k--) C.due("redo", x.redo(), k);
            C.due("NUMBER", x.of(0, 0), 45);
            C.due("none", x.redo(), STATE);
        });
        C.test("promise 33: a change behind forty undone leaves but itself", () -> {
            ForgivenStreet x = undone(40, 40);
            x.mend(1, 0, 5);
            C.due("count(3)", x.count(3), 1);
            C.due("redo", x.redo(), STATE);
            C.due("undo", x.undo(), 0);
            C.due("NUMBER", x.of(1, 0), 0);
        });
        C.test("promise 32: a change behind one undone of forty is the fortieth, the next drops the oldest", () -> {
            ForgivenStreet x = undone(40, 1);
            x.mend(1, 0, 5);
            C.due("forty", x.count(3), 40);
            x.mend(1, 0, 6);
            C.due("forty", x.count(3), 40);
            for (int k = 39; k >= 0; k--) C.due("undo", x.undo(), k);
            C.due("the oldest stays", x.of(0, 0), 1);
            C.due("NUMBER", x.of(1, 0), 0);
        });
        C.test("promise 32: the dropped ones are dropped whole", () -> {
            ForgivenStreet x = Streets.wronged(1, 4);
            x.mend(11, 0, 77);
            x.mend(2, 1, 9);
            for (int v = 1; v <= 40; v++) x.mend(0, 2, v % 12);
            for (int k = 39; k >= 0; k--) C.due("undo", x.undo(), k);
            C.due("NUMBER stays", x.of(11, 0), 77);
            C.due("HOUSE stays", x.of(2, 1), 9);
            C.due("HEART", x.of(0, 2), 6);
        });
    }

    /** Changes of all sorts, told one behind the other: {number, what, what it was, what it becomes}. */
    private static int[][] mixed(ForgivenStreet x, int many) {
        int[] most = {999, 11, 12, 9, 99, 1, 99};
        int[][] told = new int[many][];
        for (int i = 0; i < many; i++) {
            int what = i * 5 % 7;
            int number = what == 6 ? 0 : i % 3;
            int was = x.of(number, what);
            int v = what == 5 ? 1 - was : (was + 1 + i % 3) % most[what] + (what == 3 ? 1 : 0);
            if (v == was) v = most[what];
            C.due("mend " + i, x.mend(number, what, v), was);
            told[i] = new int[] {number, what, was, v};
        }
        return told;
    }

    private static void changesOfAllSorts() {
        for (int many : new int[] {40, 41, 45, 79, 80, 81}) {
            C.test("promises 32 and 33: of " + many + " changes of all sorts the latest 40, each undone and done again", () -> {
                ForgivenStreet x = Streets.wronged(3, 4);
                int[][] told = mixed(x, many);
                for (int i = many - 1; i >= many - 40; i--) {
                    C.due("undo", x.undo(), i - (many - 40));
                    C.due("change " + i + " undone", x.of(told[i][0], told[i][1]), told[i][2]);
                }
                C.due("no more", x.undo(), STATE);
                for (int i = many - 40; i < many; i++) {
                    C.due("redo", x.redo(), many - 1 - i);
                    C.due("change " + i + " done again", x.of(told[i][0], told[i][1]), told[i][3]);
                }
                C.due("no more", x.redo(), STATE);
            });
        }
    }

    private static void deedsAreNoChanges() {
        C.test("promise 32: deeds are no changes", () -> {
            ForgivenStreet x = Streets.wronged(1, 4);
            x.call(0, 5);
            x.days(3);
            x.slam(5);
            x.again(0);
            C.due("count(3)", x.count(3), 0);
            C.due("undo", x.undo(), STATE);
        });
        C.test("promise 32: undone it is the number ahead of the change, whatever deeds came since", () -> {
            ForgivenStreet x = Streets.wronged(1, 4);
            x.mend(5, 0, 10);
            x.mend(0, 6, 50);
            x.call(0, 5);
            x.days(9);
            C.due("undo", x.undo(), 1);
            C.due("TODAY", x.of(0, 6), 0);
            C.due("undo", x.undo(), 0);
            C.due("NUMBER", x.of(5, 0), 0);
            C.due("FORGIVEN by the deed", x.of(0, 5), 1);
            x.redo();
            C.due("NUMBER", x.of(5, 0), 10);
            x.redo();
            C.due("TODAY", x.of(0, 6), 50);
        });
        C.test("promise 32: an image laid back leaves the changes", () -> {
            ForgivenStreet x = Streets.wronged(1, 4);
            x.image();
            x.mend(5, 0, 10);
            x.back();
            C.due("NUMBER", x.of(5, 0), 0);
            C.due("count(3)", x.count(3), 1);
            C.due("undo", x.undo(), 0);
            C.due("redo", x.redo(), 0);
            C.due("NUMBER", x.of(5, 0), 10);
        });
    }
}
