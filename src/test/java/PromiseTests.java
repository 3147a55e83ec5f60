/** For each promise of the document: ordinary inputs, the edges that it names, wrong inputs. */
public final class PromiseTests {
    private static final int BAD = -1, NOT = -2, FULL = -3, STATE = -5, VOID = -2000000000;
    private static final int MIN = Integer.MIN_VALUE, MAX = Integer.MAX_VALUE;
    private static final Check C = new Check();

    public static void main(String[] args) {
        p1();
        p2();
        p3();
        p4();
        p5and6();
        p7and8();
        p9();
        p10and11();
        p12();
        p13();
        p14();
        p15();
        p16and17();
        p18and19and20();
        p21();
        p22();
        p23();
        p24();
        p25to29();
        p30and31();
        p32and33();
        dropped();
        p34to36();
        p37to40();
        p41();
        p42();
        p43();
        C.end("PromiseTests");
    }

    private static void p1() {
        C.part("promise 1");
        ForgivenStreet x = new ForgivenStreet();
        for (int h = 0; h < 12; h++) C.due("of(h, 0)", x.of(h, 0), 0);
        for (int what = 0; what < 6; what++) C.due("count", x.count(what), 0);
        for (int what = 0; what < 6; what++) C.due("led", x.led(what), 0);
        for (int s = 0; s < 6; s++) C.due("taken", x.taken(s, 0), -11);
        C.due("of(0, 6)", x.of(0, 6), 0);
        C.due("back()", x.back(), STATE);
        C.due("undo()", x.undo(), STATE);
        C.due("redo()", x.redo(), STATE);
        C.due("trace(0)", x.trace(0), BAD);
        C.due("constants", ForgivenStreet.BAD + ForgivenStreet.NOT + ForgivenStreet.FULL + ForgivenStreet.STATE, -11);
        C.due("VOID", ForgivenStreet.VOID, VOID);
    }

    private static void p2() {
        C.part("promise 2");
        ForgivenStreet x = new ForgivenStreet();
        for (int bad : new int[] {-1, 12, MIN, MAX}) C.due("person", x.person(bad), BAD);
        for (int p = 0; p < 10; p++) C.due("person", x.person(11 - p), p);
        C.due("person full", x.person(0), FULL);
        C.due("person bad ahead of full", x.person(12), BAD);
        for (int p = 0; p < 10; p++) {
            C.due("house", x.of(p, 1), 11 - p);
            C.due("heart", x.of(p, 2), 6);
        }
        C.due("count", x.count(0), 10);
    }

    private static void p3() {
        C.part("promise 3");
        ForgivenStreet x = new ForgivenStreet();
        x.person(0);
        C.due("alone", x.wrong(0, 1), BAD);
        x.person(0);
        for (int bt : new int[] {0, 11, 2, 20, 12, 21, -1, -10, 100, 101, MIN, MAX}) C.due("wrong " + bt, x.wrong(bt, 1), BAD);
        for (int weight : new int[] {0, 10, -1, MIN, MAX}) C.due("weight " + weight, x.wrong(1, weight), BAD);
        x.mend(0, 6, 33);
        for (int w = 0; w < 12; w++) C.due("wrong", x.wrong(w % 2 == 0 ? 1 : 10, 1 + w % 9), w);
        C.due("full", x.wrong(1, 1), FULL);
        C.due("bad ahead of full", x.wrong(0, 1), BAD);
        C.due("by", x.of(11, 7), 1);
        C.due("to", x.of(11, 8), 0);
        C.due("weight", x.of(11, 3), 3);
        C.due("day", x.of(11, 4), 33);
        C.due("forgiven", x.of(11, 5), 0);
    }

    private static void p4() {
        C.part("promise 4");
        ForgivenStreet x = new ForgivenStreet();
        x.person(0);
        x.person(1);
        C.due("missing", x.wrongs(0, 0, 1), 0);
        for (int bad : new int[] {-1, 6, MIN, MAX}) C.due("shelf", x.wrongs(bad, 0, 1), BAD);
        for (int bad : new int[] {0, 13, -1, MIN, MAX}) C.due("n", x.wrongs(0, 0, bad), BAD);
        for (int place : new int[] {-1, -3, 60, MIN, MAX}) {
            C.due("missing, whatever the place", x.wrongs(0, place, 1), 0);
            C.due("shelf, whatever the place", x.wrongs(6, place, 1), BAD);
            C.due("n, whatever the place", x.wrongs(0, place, 13), BAD);
        }
        Streets.fill(x, 0, 1, 0, 1, 5);
        C.due("shorts", x.wrongs(0, 0, 1), -12);
        C.due("shorts, whatever the place", x.wrongs(0, -1, 1), -12);
        C.due("shorts, least place", x.wrongs(0, MIN, 1), -12);
        C.due("bad ahead of -12", x.wrongs(0, 0, 0), BAD);
        x.body(0);
        x.keep(0, 0);
        C.due("door", x.wrongs(0, 0, 1), -12);
        C.due("door, whatever the place", x.wrongs(0, -1, 1), -12);
        Streets.fill(x, 0, 0, 7, 0, 1, 5, 1, 0, 9, 0, 1);
        C.due("ends within a three", x.wrongs(0, 1, 12), 2);
        C.due("weights", x.of(0, 3) * 10 + x.of(1, 3), 59);
        C.due("n of them", x.wrongs(0, 1, 1), 1);
        C.due("not so at once", x.wrongs(0, 0, 3), 0);
        C.due("behind the end", x.wrongs(0, 9, 1), 0);
        C.due("last place", x.wrongs(0, 7, 1), 0);
        C.due("far behind", x.wrongs(0, MAX, 12), 0);
        // from -2 and -3 on, a later three would lie within the row
        for (int place : new int[] {-1, -2, -3, -60, MIN, MIN + 1}) C.due("ahead of the row", x.wrongs(0, place, 12), 0);
        Streets.fill(x, 1, 0);
        C.due("row of none", x.wrongs(1, 0, 1), 0);
        C.due("ahead of a row of none", x.wrongs(1, -1, 1), 0);
        C.due("none came", x.count(1), 3);
        Streets.fill(x, 1, 0, 0, 1, 5, 0, 1, 10, 0, 1, 5);
        C.due("weight not so", x.wrongs(1, 0, 3), 1);
        Streets.fill(x, 1, 0, 0, 1, 5, 0, 0, 5);
        C.due("alike", x.wrongs(1, 0, 3), 1);
        Streets.fill(x, 1, 0, 0, 1, 5, 0, 2, 5);
        C.due("nobody", x.wrongs(1, 0, 3), 1);
        Streets.fill(x, 1, 0, 0, -1, 5);
        C.due("below 0", x.wrongs(1, 0, 1), 0);
        C.due("count", x.count(1), 6);
        int[] many = new int[60];
        for (int i = 0; i < 60; i++) many[i] = i % 3 == 0 ? 0 : 1;
        Streets.fill(x, 2, 0, many);
        C.due("until full", x.wrongs(2, 0, 12), 6);
        C.due("full", x.wrongs(2, 0, 12), 0);
        C.due("count", x.count(1), 12);
    }

    private static void p5and6() {
        C.part("promises 5, 6");
        ForgivenStreet x = new ForgivenStreet();
        x.person(4);
        x.person(5);
        x.wrong(10, 3);
        int[] least = {0, 0, 0, 1, 0, 0, 0};
        int[] most = {999, 11, 12, 9, 99, 1, 99};
        int[] first = {0, 4, 6, 3, 0, 0, 0};
        for (int what = 0; what < 7; what++) {
            C.due("first", x.of(0, what), first[what]);
            C.due("most", x.mend(0, what, most[what]), first[what]);
            C.due("least", x.mend(0, what, least[what]), most[what]);
            C.due("same", x.mend(0, what, least[what]), least[what]);
            for (int bad : new int[] {least[what] - 1, most[what] + 1, MIN, MAX}) C.due("value", x.mend(0, what, bad), VOID);
            C.due("of", x.of(0, what), least[what]);
        }
        int[] beyond = {12, 2, 2, 1, 1, 1, 1, 1, 1};
        for (int what = 0; what < 9; what++) {
            for (int bad : new int[] {-1, beyond[what], MIN, MAX}) {
                C.due("mend number", x.mend(bad, what, 1), VOID);
                C.due("of number", x.of(bad, what), VOID);
            }
        }
        for (int bad : new int[] {-1, 7, 8, 9, MIN, MAX}) C.due("mend what", x.mend(0, bad, 1), VOID);
        for (int bad : new int[] {-1, 9, MIN, MAX}) C.due("of what", x.of(0, bad), VOID);
        C.due("by", x.of(0, 7), 1);
        C.due("to", x.of(0, 8), 0);
        C.due("another", x.of(1, 1), 5);
        C.due("last house", x.mend(11, 0, 7) + x.of(11, 0), 7);
    }

    private static void p7and8() {
        C.part("promises 7, 8");
        ForgivenStreet x = new ForgivenStreet();
        for (int bad : new int[] {-1, 256, MIN, MAX}) C.due("feed", x.feed(bad), BAD);
        for (int i = 0; i < 119; i++) C.due("feed", x.feed(i % 2 == 0 ? 'w' : '+'), i + 1);
        C.due("feed", x.feed(255), 120);
        C.due("full", x.feed('w'), FULL);
        C.due("bad ahead of full", x.feed(256), BAD);
        C.due("tape", x.count(2), 120);
        C.due("fault at the end", x.law(), -219);
        C.due("empty then", x.count(2), 0);
        C.due("empty", x.law(), -100);
        C.due("again from 1", x.feed('9'), 1);
        C.due("law", x.law(), 1);
        C.due("empty then", x.count(2), 0);
        C.due("no law stands without a text", x.law(), -100);
        x.person(0);
        x.person(1);
        x.wrong(1, 3);
        C.due("by the law", x.counts(0, 5), 9);
        C.due("fault", Streets.enact(x, "4+"), -102);
        C.due("the former one stands", x.counts(0, 5), 9);
        C.due("another", Streets.enact(x, "4"), 1);
        C.due("by the other", x.counts(0, 5), 4);
    }

    private static void p9() {
        C.part("promise 9");
        ForgivenStreet x = new ForgivenStreet();
        C.due("nobody", x.counts(0, 0), BAD);
        x.person(0);
        x.person(1);
        x.wrong(1, 9);
        for (int bad : new int[] {-1, 1, MIN, MAX}) C.due("wrong", x.counts(bad, 0), BAD);
        for (int bad : new int[] {-1, 12, MIN, MAX}) C.due("house", x.counts(0, bad), BAD);
        C.due("at home", x.counts(0, 1), 5);
        C.due("elsewhere", x.counts(0, 0), 4);
        x.mend(0, 3, 2);
        C.due("a light one", x.counts(0, 0), 1);
        x.mend(0, 6, 19);
        C.due("19 days", x.counts(0, 1), 2);
        x.mend(0, 6, 20);
        C.due("20 days", x.counts(0, 1), 1);
        x.mend(0, 6, 99);
        C.due("not below 0", x.counts(0, 1), 0);
        x.mend(0, 4, 99);
        x.mend(0, 6, 0);
        C.due("a day to come", x.counts(0, 1), 2);
        x.mend(0, 5, 1);
        C.due("forgiven or not", x.counts(0, 1), 2);
    }

    private static void p10and11() {
        C.part("promises 10, 11");
        ForgivenStreet x = Streets.weighing();
        x.wrong(1, 2);
        x.wrong(10, 3);
        x.wrong(12, 2);
        C.due("later -11", x.later(0, 0, 0), -11);
        C.due("street -11", x.street(0, 0, 0), -11);
        Streets.fill(x, 0, 2, 0);
        C.due("later -12", x.later(0, 0, 0), -12);
        C.due("street -12", x.street(0, 0, 0), -12);
        x.body(0);
        x.keep(0, 0);
        C.due("later door", x.later(0, 0, 0), -12);
        for (int bad : new int[] {-1, 6, MIN, MAX}) {
            C.due("later shelf", x.later(bad, 0, 0), BAD);
            C.due("street shelf", x.street(bad, 0, 0), BAD);
        }
        for (int bad : new int[] {-1, 41, MIN, MAX}) {
            C.due("later n", x.later(0, bad, 0), BAD);
            C.due("street n", x.street(0, bad, 0), BAD);
        }
        for (int bad : new int[] {-1, 12, MIN, MAX}) {
            C.due("later house", x.later(0, 0, bad), BAD);
            C.due("street what", x.street(0, 0, bad), BAD);
        }
        C.due("street what", x.street(0, 0, 4), BAD);
        Streets.fill(x, 0, 1, 5, 5, 29, 23, 36, 0);
        int[] five = {0, 2, 2, 4, 4, 4, 4};
        for (int n = 0; n < 7; n++) C.due("later", x.later(0, n, 5), five[n]);
        C.due("later", x.later(0, 4, 11), 3);
        C.due("it ends with no wrong", x.later(0, 40, 0), 0);
        C.due("forgiven", x.street(0, 3, 0), 5);
        C.due("forgiven", x.street(0, 4, 0), 7);
        C.due("all", x.street(0, 4, 1), 7);
        C.due("for nothing", x.street(0, 1, 2), NOT);
        C.due("for nothing", x.street(0, 2, 2), 1);
        C.due("for nothing", x.street(0, 40, 2), 1);
        C.due("alike", x.street(0, 4, 3), NOT);
        Streets.fill(x, 0, 1, 5, 26, -1, 19);
        C.due("alike", x.street(0, 40, 3), 12 * 2 + 5);
        C.due("alike ahead", x.street(0, 1, 3), NOT);
        C.due("it ends below 0", x.later(0, 40, 7), 0);
        int[] forty = new int[41];
        for (int i = 0; i < 40; i++) forty[i] = 0;
        forty[40] = 12;
        Streets.fill(x, 1, 1, forty);
        C.due("40 at most", x.street(1, 40, 0), 1);
        C.due("nothing in deed", x.of(5, 0) + x.of(0, 5), 0);
        x.mend(11, 0, 998);
        Streets.fill(x, 0, 1, 23);
        C.due("999 at most", x.later(0, 1, 11), 999);
        C.due("999 at most", x.street(0, 1, 1), 999);
    }

    private static void p12() {
        C.part("promise 12");
        ForgivenStreet x = new ForgivenStreet();
        for (int bad : new int[] {-1, 2, MIN, MAX}) C.due("run", x.run(bad), BAD);
        Streets.numbers(x, 5, 1, 5, 2, 3, 3, 9, 4, 0, 0, 0, 5);
        C.due("many", x.run(0), 5);
        C.due("which", x.run(1), 1 << 1 | 1 << 3 | 1 << 4 | 1 << 7 | 1 << 11);
        Streets.numbers(x, 9, 8, 7, 6, 5, 4, 3, 2, 1, 0, 0, 0);
        C.due("one", x.run(0), 1);
        C.due("the least", x.run(1), 1);
        Streets.numbers(x, 0, 1, 2, 3, 4, 5, 6, 7, 8, 9, 10, 11);
        C.due("all", x.run(0), 12);
        C.due("all", x.run(1), 4095);
        Streets.numbers(x, 3, 4, 1, 2, 0, 0, 0, 0, 0, 0, 0, 0);
        C.due("of like ones the least", x.run(1), 3);
        Streets.numbers(x, 5, 5, 6, 6, 0, 0, 0, 0, 0, 0, 0, 0);
        C.due("of like ones the least", x.run(1), 5);
    }

    private static void p13() {
        C.part("promise 13");
        ForgivenStreet x = Streets.weighing();
        for (int bad : new int[] {-2, -3, MIN}) C.due("k", x.fewest(bad), BAD);
        C.due("in order", x.fewest(-1), 0);
        C.due("none", x.fewest(0), NOT);
        Streets.numbers(x, 1, 1, 3, 2, 5, 5, 5, 5, 5, 5, 5, 5);
        C.due("no wrongs", x.fewest(-1), NOT);
        x.wrong(1, 4);
        C.due("too much", x.fewest(-1), NOT);
        x.wrong(1, 1);
        C.due("one", x.fewest(-1), 1);
        C.due("which", x.fewest(0), 12 + 3);
        C.due("no second", x.fewest(1), NOT);
        C.due("no k-th", x.fewest(MAX), NOT);
        x.wrong(1, 2);
        C.due("the first by numbers", x.fewest(0), 12 + 3);
        x.mend(1, 5, 1);
        C.due("forgiven ones are none", x.fewest(0), 24 + 3);
        x.mend(1, 5, 0);
        Streets.numbers(x, 1, 1, 3, 2, 5, 4, 5, 5, 5, 5, 5, 5);
        C.due("two", x.fewest(-1), 2);
        C.due("first", x.fewest(0), 12 + 5);
        C.due("second", x.fewest(1), 24 + 3);
        C.due("no third", x.fewest(2), NOT);
        Streets.numbers(x, 1, 1, 4, 1, 4, 4, 5, 5, 5, 5, 5, 5);
        C.due("two in one house", x.fewest(-1), 2);
        C.due("first", x.fewest(0), 12 + 3);
        C.due("second", x.fewest(1), 24 + 3);
        Streets.numbers(x, 1, 2, 1, 2, 1, 2, 1, 2, 2, 2, 2, 2);
        C.due("three", x.fewest(-1), NOT);
        C.due("three", x.fewest(1), NOT);
        C.due("in thought", x.of(1, 5) + x.of(3, 0), 2);
    }

    private static void p14() {
        C.part("promise 14");
        ForgivenStreet x = Streets.weighing();
        for (int bad : new int[] {-1, 12, MIN, MAX}) C.due("house", x.all(bad), BAD);
        x.mend(3, 0, 5);
        C.due("no wrongs", x.all(3), 5);
        x.wrong(1, 2);
        x.wrong(12, 3);
        x.wrong(20, 9);
        x.mend(1, 5, 1);
        C.due("all not forgiven", x.all(3), 16);
        C.due("elsewhere", x.all(0), 11);
        Streets.enact(x, "n<7?w");
        C.due("by numbers, one behind the other", x.all(3), 7);
        Streets.enact(x, "w");
        x.mend(3, 0, 997);
        C.due("999 at most", x.all(3), 999);
        C.due("in thought", x.of(3, 0), 997);
    }

    private static void p15() {
        C.part("promise 15");
        ForgivenStreet x = Streets.weighing();
        for (int bad : new int[] {-1, 2, MIN, MAX}) C.due("what", x.evening(bad), BAD);
        C.due("none", x.evening(0), 0);
        C.due("none", x.evening(1), 0);
        x.wrong(1, 3);
        x.wrong(2, 4);
        C.due("one of one BY", x.evening(0), 4);
        C.due("which", x.evening(1), 2);
        x.wrong(10, 4);
        x.wrong(20, 4);
        C.due("much", x.evening(0), 8);
        C.due("of like ones the least", x.evening(1), 6);
        x.mend(1, 3, 9);
        x.mend(2, 3, 9);
        x.mend(2, 5, 1);
        C.due("forgiven ones are none", x.evening(0), 13);
        C.due("which", x.evening(1), 10);
        x.mend(2, 5, 0);
        x.mend(2, 1, 0);
        C.due("no two in one house", x.evening(0), 12);
        C.due("no two in one house", x.evening(1), 5);
        Streets.enact(x, "o*n");
        x.mend(0, 0, 5);
        C.due("by NUMBERS as they are", x.evening(0), 5);
        C.due("by NUMBERS as they are", x.evening(1), 2);
        ForgivenStreet y = new ForgivenStreet();
        for (int p = 0; p < 4; p++) y.person(p);
        y.wrong(1, 2);
        y.wrong(32, 2);
        y.wrong(2, 4);
        Streets.enact(y, "w");
        C.due("like", y.evening(0), 4);
        C.due("fewest", y.evening(1), 4);
        Streets.enact(y, "0");
        C.due("nothing counts", y.evening(1), 0);
    }

    private static void p16and17() {
        C.part("promises 16, 17");
        ForgivenStreet x = new ForgivenStreet();
        C.due("none", x.ring(), NOT);
        C.due("nobody", x.owes(0), VOID);
        for (int p = 0; p < 10; p++) x.person(p);
        for (int bad : new int[] {-1, 10, MIN, MAX}) C.due("owes", x.owes(bad), VOID);
        for (int p = 0; p < 9; p++) x.wrong(p * 10 + p + 1, 1);
        C.due("no ring yet", x.ring(), NOT);
        C.due("owes", x.owes(0), 1);
        C.due("owes", x.owes(1), 0);
        C.due("owes", x.owes(9), -1);
        x.wrong(90, 1);
        C.due("ten", x.ring(), 10);
        x.wrong(52, 1);
        C.due("four", x.ring(), 4);
        C.due("owes", x.owes(5), 1);
        x.mend(3, 5, 1);
        C.due("without one: through 5, 2", x.ring(), NOT);
        C.due("owes", x.owes(3), -1);
        x.mend(3, 5, 0);
        x.wrong(10, 1);
        C.due("two", x.ring(), 2);
        x.mend(0, 5, 1);
        C.due("forgiven ones are none", x.ring(), 4);
    }

    private static void p18and19and20() {
        C.part("promises 18, 19, 20");
        ForgivenStreet x = new ForgivenStreet();
        C.due("nobody", x.chosen(0), BAD);
        Streets.numbers(x, 50, 10, 30, 30, 7, 999, 54, 58, 8, 8, 0, 20);
        for (int bad : new int[] {-1, 12, MIN, MAX}) C.due("post house", x.post(bad, 0), BAD);
        for (int bad : new int[] {-1, 1000, MIN, MAX}) {
            C.due("post v", x.post(0, bad), BAD);
            C.due("nearest v", x.nearest(bad), BAD);
        }
        C.due("here", x.post(5, 999), 0);
        C.due("next", x.post(1, 30), 1);
        C.due("round", x.post(11, 50), 1);
        C.due("all round", x.post(6, 999), 11);
        C.due("none", x.post(0, 11), NOT);
        C.due("nearest", x.nearest(0), 10);
        C.due("nearest", x.nearest(999), 5);
        C.due("of like ones the least", x.nearest(30), 2);
        C.due("of like ones the least", x.nearest(25), 2);
        C.due("of like ones the least", x.nearest(15), 1);
        for (int p = 0; p < 10; p++) x.person(0);
        for (int bad : new int[] {-1, 10, MIN, MAX}) C.due("chosen", x.chosen(bad), BAD);
        x.mend(3, 2, 12);
        x.mend(4, 2, 0);
        int[] due = {6, 0, 7, 2, 10, 3, 11, 1, 8, 9};
        for (int p = 0; p < 10; p++) C.due("chosen", x.chosen(p), due[p]);
        C.due("nothing is kept", x.chosen(0), 6);
        ForgivenStreet y = new ForgivenStreet();
        for (int h = 0; h < 12; h++) y.mend(h, 0, 999);
        y.person(0);
        y.person(0);
        y.mend(1, 2, 0);
        C.due("as far as can be", y.chosen(1), 1);
        C.due("as far as can be", y.nearest(0), 0);
    }

    private static void p21() {
        C.part("promise 21");
        ForgivenStreet x = Streets.weighing();
        x.wrong(1, 2);
        x.wrong(12, 3);
        for (int bad : new int[] {-1, -10, 6, 9, 60, 56, 65, 100, MIN, MAX}) C.due("shelves", x.judge(bad, 0), BAD);
        for (int bad : new int[] {-1, 12, MIN, MAX}) C.due("house", x.judge(1, bad), BAD);
        C.due("calls -11", x.judge(1, 0), -11);
        Streets.fill(x, 0, 0, 0);
        C.due("calls first", x.judge(1, 0), -12);
        Streets.fill(x, 0, 1, 4, 4, 16);
        C.due("painted -11", x.judge(1, 0), -11);
        Streets.fill(x, 1, 2, 0);
        C.due("painted -12", x.judge(1, 0), -12);
        x.body(0);
        x.keep(1, 0);
        C.due("painted a door", x.judge(1, 0), -12);
        x.row(1, 1, 0);
        C.due("nothing painted", x.judge(1, 4), NOT);
        Streets.fill(x, 1, 1, 0, 2, 2, 5);
        C.due("all so", x.judge(1, 4), NOT);
        C.due("another house", x.judge(1, 3), 1);
        Streets.fill(x, 1, 1, 1, 2, 2, 5);
        C.due("the first", x.judge(1, 4), 0);
        Streets.fill(x, 1, 1, 0, 2, 2, 6);
        C.due("the last", x.judge(1, 4), 3);
        Streets.fill(x, 1, 1, 0, 2);
        C.due("fewer", x.judge(1, 4), NOT);
        Streets.fill(x, 1, 1, 0, 2, 2, 5, 5);
        C.due("more than that", x.judge(1, 4), 4);
        Streets.fill(x, 0, 1, 4, 24);
        Streets.fill(x, 1, 1, 0, 2, 2);
        C.due("more than CALLS that are there", x.judge(1, 4), 2);
        Streets.fill(x, 5, 1, 0);
        C.due("one row for both", x.judge(55, 0), NOT);
        x.row(0, 1, 50);
        x.row(1, 1, 60);
        C.due("40 calls at most", x.judge(1, 7), 41);
    }

    private static void p22() {
        C.part("promise 22");
        ForgivenStreet x = Streets.weighing();
        x.wrong(1, 2);
        C.due("nothing there", x.fits(1, 0, 0, 0), -11);
        Streets.fill(x, 0, 1, 5);
        C.due("painted -11", x.fits(1, 0, 0, 2), -11);
        Streets.fill(x, 1, 0, 5);
        C.due("painted -12", x.fits(1, 0, 0, 2), -12);
        C.due("calls -12 first", x.fits(12, 0, 0, 2), -12);
        for (int bad : new int[] {-1, 6, 60, 100, MIN, MAX}) C.due("shelves", x.fits(bad, 0, 0, 0), BAD);
        for (int bad : new int[] {-1, 12, MIN, MAX}) C.due("house", x.fits(1, bad, 0, 0), BAD);
        for (int bad : new int[] {-1, 4, MIN, MAX}) C.due("what", x.fits(1, 0, 0, bad), BAD);
        for (int bad : new int[] {-1, 3, MIN, MAX}) C.due("one", x.fits(1, 0, bad, 0), BAD);
        for (int bad : new int[] {-1, 1, MIN, MAX}) C.due("wrong", x.fits(1, 0, bad, 3), BAD);
        Streets.fill(x, 1, 1, 0, 7);
        C.due("weights", x.fits(1, 5, 0, 2), 1);
        C.due("the least", x.fits(1, 5, 0, 3), 7);
        C.due("no heart", x.fits(1, 5, 1, 0), 0);
        C.due("no heart", x.fits(1, 5, 1, 1), NOT);
        Streets.fill(x, 1, 1, 0, 10);
        C.due("no weight", x.fits(1, 5, 0, 2), 0);
        C.due("no weight", x.fits(1, 5, 0, 3), NOT);
        x.row(1, 1, 0);
        C.due("all weights", x.fits(1, 5, 0, 2), 9);
        C.due("the least", x.fits(1, 5, 0, 3), 1);
        C.due("all hearts", x.fits(1, 5, 1, 0), 13);
        C.due("the least", x.fits(1, 5, 1, 1), 0);
        Streets.enact(x, "h/3");
        Streets.fill(x, 1, 1, 0, 2);
        C.due("hearts 6, 7, 8", x.fits(1, 5, 1, 0), 3);
        C.due("the least", x.fits(1, 5, 1, 1), 6);
        Streets.fill(x, 1, 1, 0, 4);
        C.due("heart 12", x.fits(1, 5, 1, 1), 12);
        C.due("heart as before", x.of(1, 2), 6);
        C.due("weight as before", x.of(0, 3), 2);
        C.due("no change", x.count(3), 0);
    }

    private static void p23() {
        C.part("promise 23");
        ForgivenStreet x = Streets.weighing();
        x.wrong(10, 2);
        x.wrong(20, 3);
        x.wrong(1, 5);
        x.wrong(12, 9);
        for (int bad : new int[] {0, 11, 3, 30, -1, 100, MIN, MAX}) C.due("ab", x.byTurns(bad, 1, 0), VOID);
        for (int bad : new int[] {0, 5, MIN, MAX}) C.due("n", x.byTurns(1, bad, 0), VOID);
        for (int bad : new int[] {-1, 2, MIN, MAX}) C.due("what", x.byTurns(1, 1, bad), VOID);
        int[] due = {3, -2, 0, 0};
        for (int n = 1; n <= 4; n++) C.due("that", x.byTurns(1, n, 0), due[n - 1]);
        C.due("first", x.byTurns(1, 1, 1), 1);
        C.due("of like ones the least", x.byTurns(1, 3, 1), 0);
        C.due("one wrong, two turns: nothing first", x.byTurns(10, 3, 1), 12);
        C.due("one wrong, one turn", x.byTurns(10, 1, 1), 2);
        Streets.enact(x, "n=0?w-2;w*3");
        C.due("0 does not count", x.byTurns(1, 3, 0), 1 - 3 + 6 - 0);
        Streets.enact(x, "n=0&w=2?1;n=0&w=3?2;n=1?9;n=2?3");
        C.due("the order counts", x.byTurns(1, 3, 0), 10);
        C.due("the lighter one first", x.byTurns(1, 3, 1), 0);
        Streets.enact(x, "n=0&w=2?2;n=0&w=3?1;n=1?9;n=2?3");
        C.due("the heavier one first", x.byTurns(1, 3, 1), 1);
        x.mend(0, 5, 1);
        C.due("forgiven ones are none", x.byTurns(1, 3, 0), 1);
        Streets.enact(x, "w");
        C.due("forgiven ones are none", x.byTurns(1, 4, 0), -2);
        C.due("forgiven ones are none", x.byTurns(1, 1, 1), 1);
        C.due("nothing first", x.byTurns(1, 3, 1), 12);
        x.mend(0, 0, 998);
        C.due("999 at most", x.byTurns(1, 1, 0), 999);
        C.due("999 at most", x.byTurns(1, 2, 0), 994);
        x.mend(0, 0, 0);
        x.mend(0, 5, 0);
        x.mend(1, 1, 0);
        C.due("one house", x.byTurns(1, 4, 0), 0);
        C.due("one house", x.byTurns(1, 4, 1), 12);
        C.due("in thought", x.street(0, 0, 0), -11);
        C.due("in thought", x.of(0, 0) + x.of(1, 5), 0);
    }

    private static void p24() {
        C.part("promise 24");
        ForgivenStreet x = Streets.weighing();
        x.mend(4, 0, 3);
        for (int bad : new int[] {0, 1, 99, 100, 141, 199, 3100, 3101, -101, MIN, MAX}) C.due("nm " + bad, x.drawn(1, bad, 0), BAD);
        for (int bad : new int[] {-2, 12, MIN, MAX}) C.due("house", x.drawn(1, 101, bad), BAD);
        C.due("no wrongs: the ends of 30 years", x.drawn(7, 3040, -1), 90);
        C.due("no wrongs: the ends of 2 years", x.drawn(7, 201, 4), 6);
        x.wrong(1, 5);
        int z = 77 * 1103515245 + 12345;
        C.due("one day", x.drawn(77, 101, (z >>> 16) % 12), 5 + x.of((z >>> 16) % 12, 0));
        C.due("each year is from now", x.drawn(77, 201, -1), 16);
        C.due("the second day it is done again", x.drawn(77, 102, -1), 8);
        C.due("the third it is forgiven again", x.drawn(77, 103, -1), 13);
        Streets.enact(x, "a");
        x.mend(0, 6, 95);
        C.due("TODAY stays 99: 95 - 0, 96 again, none at 97 - 96", x.drawn(77, 103, -1), 3 + 9 + 1);
        C.due("in thought", x.of(0, 6), 95);
    }

    private static void p25to29() {
        C.part("promises 25 to 29");
        ForgivenStreet x = Streets.weighing();
        x.wrong(1, 4);
        x.wrong(12, 9);
        for (int bad : new int[] {-1, 2, MIN, MAX}) {
            C.due("call", x.call(bad, 0), BAD);
            C.due("again", x.again(bad), BAD);
        }
        for (int bad : new int[] {-1, 12, MIN, MAX}) {
            C.due("call house", x.call(0, bad), BAD);
            C.due("slam", x.slam(bad), BAD);
        }
        for (int bad : new int[] {0, 100, -1, MIN, MAX}) C.due("days", x.days(bad), BAD);
        for (int bad : new int[] {-1, 6, MIN, MAX}) C.due("led", x.led(bad), BAD);
        for (int what = 0; what < 6; what++) C.due("led", x.led(what), 0);
        C.due("call", x.call(0, 7), 4);
        C.due("NUMBER", x.of(7, 0), 4);
        C.due("FORGIVEN", x.of(0, 5), 1);
        C.due("for nothing", x.call(0, 7), 0);
        x.mend(7, 0, 995);
        C.due("call", x.call(1, 7), 9);
        C.due("999 at most", x.of(7, 0), 999);
        C.due("days", x.days(60), 60);
        C.due("days", x.days(60), 99);
        C.due("again", x.again(1), 0);
        C.due("DAY", x.of(1, 4), 99);
        C.due("not FORGIVEN", x.of(1, 5), 0);
        C.due("again", x.again(1), STATE);
        Streets.enact(x, "0");
        C.due("counts 0", x.call(1, 7), 0);
        C.due("not FORGIVEN", x.of(1, 5), 0);
        C.due("slam", x.slam(7), 998);
        C.due("slam", x.slam(0), 0);
        int[] led = {2, 2, 13, 1, 120, 2};
        for (int what = 0; what < 6; what++) C.due("led " + what, x.led(what), led[what]);
    }

    private static void p30and31() {
        C.part("promises 30, 31");
        ForgivenStreet x = Streets.weighing();
        C.due("none", x.back(), STATE);
        x.wrong(1, 4);
        x.wrong(12, 5);
        x.call(0, 3);
        C.due("image", x.image(), 1);
        x.days(9);
        x.again(0);
        x.call(1, 3);
        x.slam(3);
        x.call(1, 3);
        x.mend(0, 2, 11);
        x.wrong(20, 6);
        x.call(2, 3);
        C.due("led", x.led(0), 3);
        C.due("back", x.back(), 1);
        int[] led = {1, 0, 4, 0, 0, 0};
        for (int what = 0; what < 6; what++) C.due("led " + what, x.led(what), led[what]);
        C.due("NUMBER", x.of(3, 0), 4);
        C.due("FORGIVEN", x.of(0, 5) * 10 + x.of(1, 5), 10);
        C.due("DAY", x.of(0, 4), 0);
        C.due("TODAY", x.of(0, 6), 0);
        C.due("HEART is not kept", x.of(0, 2), 11);
        C.due("what came since", x.of(2, 5), 1);
        C.due("its DAY", x.of(2, 4), 9);
        C.due("people, wrongs stay", x.count(0) * 10 + x.count(1), 33);
        C.due("changes stay", x.count(3), 1);
        x.slam(3);
        C.due("once more", x.back(), 1);
        C.due("NUMBER", x.of(3, 0), 4);
        x.call(1, 5);
        C.due("another image", x.image(), 2);
        x.slam(5);
        C.due("back", x.back(), 2);
        C.due("NUMBER", x.of(5, 0), 5);
    }

    private static void p32and33() {
        C.part("promises 32, 33");
        ForgivenStreet x = Streets.weighing();
        C.due("none", x.undo(), STATE);
        C.due("none", x.redo(), STATE);
        x.wrong(1, 4);
        int[] values = {7, 8, 9, 6, 5, 1, 3};
        int[] first = new int[7];
        for (int what = 0; what < 7; what++) first[what] = x.mend(0, what, values[what]);
        x.mend(0, 3, 6);
        x.mend(0, 3, 10);
        C.due("the same is none", x.count(3), 7);
        for (int what = 6; what >= 0; what--) {
            C.due("undo", x.undo(), what);
            C.due("as before", x.of(0, what), first[what]);
        }
        C.due("none", x.undo(), STATE);
        for (int what = 0; what < 7; what++) {
            C.due("redo", x.redo(), 6 - what);
            C.due("again", x.of(0, what), values[what]);
        }
        C.due("none", x.redo(), STATE);
        x.undo();
        x.undo();
        x.slam(0);
        x.mend(0, 2, 9);
        x.mend(0, 2, 13);
        C.due("deeds and what is the same are no changes", x.redo(), 1);
        x.mend(0, 2, 2);
        C.due("another came behind", x.redo(), STATE);
        C.due("kept", x.count(3), 7);
        for (int i = 0; i < 50; i++) x.mend(3, 0, i + 1);
        C.due("40 at most", x.count(3), 40);
        for (int i = 39; i >= 0; i--) C.due("undo", x.undo(), i);
        C.due("none", x.undo(), STATE);
        C.due("the fortieth from the end", x.of(3, 0), 10);
        C.due("redo", x.redo(), 39);
        C.due("redo", x.redo(), 38);
        x.undo();
        x.slam(3);
        x.slam(3);
        C.due("deeds stay, the change lays its number back", x.undo(), 0);
        C.due("number", x.of(3, 0), 10);
    }

    /** The oldest of unlike changes are dropped whole. */
    private static void dropped() {
        C.part("promises 32, 33, dropped");
        ForgivenStreet x = Streets.weighing();
        for (int i = 0; i < 45; i++) {
            int what = i % 3;
            x.mend(what == 0 ? i % 12 : i % 3, what, 1 + i % 11);
        }
        C.due("45 told, 40 kept", x.count(3), 40);
        ForgivenStreet y = Streets.weighing();
        for (int i = 0; i < 5; i++) {
            int what = i % 3;
            y.mend(what == 0 ? i % 12 : i % 3, what, 1 + i % 11);
        }
        for (int i = 0; i < 40; i++) x.undo();
        C.due("none", x.undo(), STATE);
        for (int h = 0; h < 12; h++) C.due("NUMBER", x.of(h, 0), y.of(h, 0));
        for (int p = 0; p < 3; p++) C.due("HOUSE", x.of(p, 1), y.of(p, 1));
        for (int p = 0; p < 3; p++) C.due("HEART", x.of(p, 2), y.of(p, 2));
    }

    private static void p34to36() {
        C.part("promises 34 to 36");
        ForgivenStreet x = new ForgivenStreet();
        for (int bad : new int[] {-1, 8, MIN, MAX}) C.due("kind", x.body(bad), BAD);
        C.due("no door", x.act(0, 0, 5), 0);
        for (int b = 0; b < 50; b++) C.due("body", x.body(b % 8), b);
        C.due("full", x.body(0), FULL);
        C.due("bad ahead of full", x.body(8), BAD);
        acts(x, 8, new int[] {13, 26, 13, 26 - 9}, new int[][] {{1}, {10, 1}, {11}, {2, 10, 1, 11}});
        acts(x, 9, new int[] {17, 34, 12, 34 - 8}, new int[][] {{20, 1}, {10, 20, 1}, {11}, {2, 10, 20, 1, 11}});
        acts(x, 10, new int[] {15, -30, 15, -30 - 11}, new int[][] {{1}, {30, 10, 1}, {11}, {2, 30, 10, 1, 11}});
        acts(x, 11, new int[] {16, -34, 42, -34 - 30}, new int[][] {{1}, {41, 30, 10, 1}, {40, 11}, {2, 41, 30, 10, 1, 40, 11}});
        acts(x, 12, new int[] {20, 40, 9 - 17, 40 - (13 - 17)},
            new int[][] {{20, 1}, {10, 20, 1}, {50, 11, 20, 1}, {2, 10, 20, 1, 50, 11, 20, 1}});
        acts(x, 13, new int[] {18, -38, 24, (-38 - 36) ^ 5},
            new int[][] {{1}, {41, 30, 10, 1}, {40, 11}, {60, 2, 41, 30, 10, 1, 40, 11}});
        acts(x, 14, new int[] {38, 76, 11, 76 - 15}, new int[][] {{70, 1}, {10, 70, 1}, {11}, {2, 10, 70, 1, 11}});
        acts(x, 15, new int[] {23, 46 + (13 - 20), 10 - 20, 39 - (14 - 20) - 1},
            new int[][] {{20, 1}, {80, 10, 20, 1, 50, 11, 20, 1}, {50, 11, 20, 1}, {81, 2, 80, 10, 20, 1, 50, 11, 20, 1, 50, 11, 20, 1}});
        C.due("wraps", x.act(8, 0, MAX), MIN + 7);
        C.due("wraps", x.act(8, 1, MAX), (MIN + 7) * 2);
        C.due("one ran", x.act(8, 0, 0) + x.count(5), 9);
        for (int bad : new int[] {-1, 50, MIN, MAX}) {
            x.act(15, 3, 1);
            C.due("no such door", x.act(bad, 0, 5), 0);
            C.due("no trace", x.trace(0), BAD);
            C.due("none ran", x.count(5), 0);
        }
        for (int bad : new int[] {-1, 4, MIN, MAX}) {
            x.act(15, 3, 1);
            C.due("no such act", x.act(15, bad, 5), 0);
            C.due("no trace", x.trace(0), BAD);
        }
    }

    /** What the four acts of a body give with 5, and by which bodies. */
    private static void acts(ForgivenStreet x, int body, int[] gives, int[][] traces) {
        for (int act = 0; act < 4; act++) {
            C.due("act " + act + " of " + body, x.act(body, act, 5), gives[act]);
            C.due("ran", x.count(5), traces[act].length);
            for (int i = 0; i < traces[act].length; i++) C.due("trace " + i + " of act " + act + " of " + body, x.trace(i), traces[act][i]);
            for (int bad : new int[] {-1, traces[act].length, 24, MIN, MAX}) C.due("trace", x.trace(bad), BAD);
        }
    }

    private static void p37to40() {
        C.part("promises 37 to 40");
        ForgivenStreet x = new ForgivenStreet();
        for (int bad : new int[] {-1, 6, MIN, MAX}) {
            C.due("keep shelf", x.keep(bad, -1), BAD);
            C.due("row shelf", x.row(bad, 0, 1), BAD);
            C.due("put shelf", x.put(bad, 0, 1), BAD);
            C.due("element shelf", x.element(bad, 0), Long.MIN_VALUE);
        }
        C.due("no body", x.keep(0, 0), BAD);
        x.body(3);
        for (int bad : new int[] {-2, 1, MIN, MAX}) C.due("keep body", x.keep(0, bad), BAD);
        C.due("put -11", x.put(0, -1, 1), -11);
        C.due("element -11", x.element(0, 0), Long.MIN_VALUE);
        C.due("keep", x.keep(0, 0), 1);
        C.due("put -12", x.put(0, -1, 1), -12);
        C.due("element -12", x.element(0, 0), Long.MIN_VALUE);
        C.due("taken", x.taken(0, 3), 3);
        C.due("keep nothing", x.keep(0, -1), 1);
        C.due("taken", x.taken(0, 3), -11);
        for (int bad : new int[] {-1, 5, MIN, MAX}) C.due("row sort", x.row(0, bad, -1), BAD);
        for (int bad : new int[] {61, MAX}) C.due("row n", x.row(0, 0, bad), BAD);
        for (int bad : new int[] {-1, MIN}) C.due("row -14", x.row(0, 0, bad), -14);
        C.due("nothing came of it", x.put(0, 0, 1), -11);
        long[] values = {0x123456789abcdef0L, -1, 0, 128, 32768, 1L << 31, 1L << 32, Long.MIN_VALUE};
        for (int sort = 0; sort < 5; sort++) {
            C.due("row", x.row(5, sort, 60), 1);
            C.due("0 at first", x.element(5, 59), 0);
            for (int bad : new int[] {-1, 60, MIN, MAX}) {
                C.due("put -13", x.put(5, bad, 1), -13);
                C.due("element -13", x.element(5, bad), Long.MIN_VALUE);
            }
            for (long v : values) {
                long[] kept = {(byte) v, (short) v, (int) v, v, v != 0 ? 1 : 0};
                C.due("put", x.put(5, 59, v), 1);
                C.due("sort " + sort, x.element(5, 59), kept[sort]);
            }
        }
        x.put(5, 59, 1);
        C.due("an empty row", x.row(5, 3, 0), 1);
        C.due("no place", x.put(5, 0, 1), -13);
        x.row(5, 3, 60);
        C.due("a new row is empty again", x.element(5, 59), 0);
    }

    private static void p41() {
        C.part("promise 41");
        ForgivenStreet x = new ForgivenStreet();
        x.body(0);
        for (int bad : new int[] {-1, 6, MIN, MAX}) {
            C.due("shelf", x.shift(bad, 0, 0, 0, 0), BAD);
            C.due("other", x.shift(0, 0, bad, 0, 0), BAD);
        }
        x.keep(1, 0);
        C.due("-11 of the first", x.shift(0, 0, 1, 0, 0), -11);
        C.due("-11 of the other", x.shift(1, 0, 0, 0, 0), -11);
        C.due("no rows", x.shift(1, 0, 1, 0, 0), -12);
        Streets.fill(x, 0, 1, 1, 2, 3, 4, 5, 6);
        C.due("a door", x.shift(0, 0, 1, 0, 0), -12);
        C.due("a door", x.shift(1, 0, 0, 0, 0), -12);
        Streets.fill(x, 1, 2, 7, 8);
        C.due("unlike sorts", x.shift(0, 9, 1, 0, 1), -12);
        Streets.fill(x, 1, 1, 7, 8);
        C.due("n", x.shift(0, 4, 1, 0, 2), 2);
        C.due("came", x.element(1, 0) * 10 + x.element(1, 1), 56);
        int[][] bad = {{-1, 0, 1}, {0, -1, 1}, {0, 0, 3}, {6, 0, 1}, {0, 2, 1}, {5, 0, 2}, {0, 1, 2}, {7, 0, 0}, {0, 3, 0},
            {0, 0, -1}, {MAX, 0, 1}, {1, MAX, MAX}, {MIN, 0, MIN}, {0, 0, MAX}, {0, 0, MIN}};
        for (int[] b : bad) C.due("-13 of " + b[0] + " " + b[1] + " " + b[2], x.shift(0, b[0], 1, b[1], b[2]), -13);
        C.due("none at the ends", x.shift(0, 6, 1, 2, 0), 0);
        C.due("as they were", x.element(1, 0) * 10 + x.element(1, 1), 56);
        C.due("to the right in one row", x.shift(0, 0, 0, 2, 4), 4);
        int[] right = {1, 2, 1, 2, 3, 4};
        for (int i = 0; i < 6; i++) C.due("element", x.element(0, i), right[i]);
        C.due("to the left in one row", x.shift(0, 1, 0, 0, 5), 5);
        int[] left = {2, 1, 2, 3, 4, 4};
        for (int i = 0; i < 6; i++) C.due("element", x.element(0, i), left[i]);
    }

    private static void p42() {
        C.part("promise 42");
        ForgivenStreet x = new ForgivenStreet();
        for (int bad : new int[] {-1, 6, MIN, MAX}) C.due("shelf", x.taken(bad, 0), BAD);
        for (int bad : new int[] {-1, 8, MIN, MAX}) C.due("kind", x.taken(0, bad), BAD);
        C.due("-11", x.taken(0, 0), -11);
        x.row(0, 1, 4);
        C.due("a row", x.taken(0, 0), -12);
        String[] above = {"0", "01", "02", "023", "014", "0235", "06", "0147"};
        for (int kind = 0; kind < 8; kind++) {
            x.body(kind);
            x.keep(0, kind);
            for (int k = 0; k < 8; k++) C.due("taken", x.taken(0, k), above[kind].indexOf('0' + k) >= 0 ? kind : -12);
        }
    }

    private static void p43() {
        C.part("promise 43");
        ForgivenStreet x = Streets.weighing();
        for (int bad : new int[] {-1, 6, MIN, MAX}) C.due("what", x.count(bad), BAD);
        x.wrong(1, 1);
        x.wrong(1, 1);
        Streets.feedAll(x, "abcd");
        for (int i = 1; i <= 6; i++) x.mend(0, 0, i);
        x.undo();
        for (int i = 0; i < 6; i++) x.body(7);
        x.act(0, 3, 0);
        int[] due = {3, 2, 4, 5, 6, 14};
        for (int what = 0; what < 6; what++) C.due("count " + what, x.count(what), due[what]);
    }
}
