/** The boundary cases of people and wrongs: promises 1 to 6 and 9. */
public final class BoundsFolk {
    private static final int BAD = Bounds.BAD, FULL = Bounds.FULL, STATE = Bounds.STATE, VOID = Bounds.VOID;
    private static final int MIN = Bounds.MIN, MAX = Bounds.MAX;
    private static final Check C = new Check();
    private static final Bounds B = new Bounds(C);
    /** By 'what' of mend(): what it is at first, in told(), and the ends of what it may be. */
    private static final String[] WHAT = {"NUMBER", "HOUSE", "HEART", "WEIGHT", "DAY", "FORGIVEN", "TODAY"};
    private static final int[] FIRST = {0, 4, 6, 3, 0, 0, 0};
    private static final int[] LEAST = {0, 0, 0, 1, 0, 0, 0};
    private static final int[] MOST = {999, 11, 12, 9, 99, 1, 99};

    public static void main(String[] args) {
        newObject();
        person();
        wrong();
        wrongsTaken();
        wrongsEnding();
        wrongsRefused();
        mend();
        of();
        countsEnds();
        countsWithoutText();
        C.named(1, 2, 3, 4, 5, 6, 9);
        C.end("BoundsFolk");
    }

    private static void newObject() {
        C.test("promise 1: the constants", () -> {
            C.due("BAD", ForgivenStreet.BAD, -1);
            C.due("NOT", ForgivenStreet.NOT, -2);
            C.due("FULL", ForgivenStreet.FULL, -3);
            C.due("STATE", ForgivenStreet.STATE, -5);
            C.due("VOID", ForgivenStreet.VOID, -2000000000);
        });
        C.test("promise 1: twelve houses, each with NUMBER 0, no thirteenth", () -> {
            ForgivenStreet x = new ForgivenStreet();
            for (int h = 0; h < 12; h++) C.due("of(" + h + ", 0)", x.of(h, 0), 0);
            C.due("of(12, 0)", x.of(12, 0), VOID);
        });
        C.test("promise 1: nobody", () -> {
            ForgivenStreet x = new ForgivenStreet();
            C.due("count(0)", x.count(0), 0);
            C.due("of(0, 1)", x.of(0, 1), VOID);
            C.due("of(0, 2)", x.of(0, 2), VOID);
        });
        C.test("promise 1: no wrongs", () -> {
            ForgivenStreet x = new ForgivenStreet();
            C.due("count(1)", x.count(1), 0);
            for (int what : new int[] {3, 4, 5, 7, 8}) C.due("of(0, " + what + ")", x.of(0, what), VOID);
        });
        C.test("promise 1: TODAY 0 at first", () -> C.due("of(0, 6)", new ForgivenStreet().of(0, 6), 0));
        C.test("promise 1: the tape is empty at first", () -> C.due("law()", new ForgivenStreet().law(), -100));
        C.test("promise 1: nothing to undo, to redo, no image at first", () -> {
            ForgivenStreet x = new ForgivenStreet();
            C.due("undo()", x.undo(), STATE);
            C.due("redo()", x.redo(), STATE);
            C.due("back()", x.back(), STATE);
        });
        C.test("promise 1: two objects share nothing", () -> {
            String before = Seen.of(new ForgivenStreet());
            ForgivenStreet other = new ForgivenStreet();
            Streets.rich();
            C.same("a new one beside a full one", Seen.of(other), before);
        });
    }

    private static void person() {
        B.ends("promise 2, HOUSE 0 .. 11", Streets::rich, BAD, 0, 11, (x, v) -> x.person(v));
        C.test("promise 2: PEOPLE 0 .. 9 as they come, HOUSE as told, HEART 6 at first", () -> {
            ForgivenStreet x = new ForgivenStreet();
            for (int p = 0; p < 10; p++) {
                C.due("person", x.person(11 - p), p);
                C.due("HOUSE", x.of(p, 1), 11 - p);
                C.due("HEART", x.of(p, 2), 6);
            }
        });
        C.test("promise 2: the tenth is taken, the eleventh is FULL, and stays FULL", () -> {
            ForgivenStreet x = Streets.peopled(9);
            C.due("the tenth", x.person(0), 9);
            C.due("the eleventh", x.person(0), FULL);
            C.due("once more", x.person(11), FULL);
            C.due("count(0)", x.count(0), 10);
        });
        B.refused("promise 2: FULL changes nothing", () -> Streets.peopled(10), FULL, x -> x.person(0), x -> x.person(11));
        B.refused("promise 2: BAD is ahead of FULL", () -> Streets.peopled(10), BAD,
            x -> x.person(-1), x -> x.person(12), x -> x.person(MIN), x -> x.person(MAX));
        C.test("promise 2: all may live in one house", () -> {
            ForgivenStreet x = new ForgivenStreet();
            for (int p = 0; p < 10; p++) C.due("person", x.person(11), p);
        });
    }

    private static void wrong() {
        B.ends("promise 3, WEIGHT 1 .. 9", Streets::rich, BAD, 1, 9, (x, v) -> x.wrong(1, v));
        C.test("promise 3, BY and TO of four PEOPLE: all of them are taken", () -> {
            for (int one = 1; one < 4; one++) {
                C.due("BY " + one, Streets.rich().wrong(10 * one, 5), 5);
                C.due("TO " + one, Streets.rich().wrong(one, 5), 5);
            }
        });
        C.test("promise 3, BY of ten PEOPLE: 0 and 9 are taken", () -> {
            ForgivenStreet x = Streets.peopled(10);
            C.due("wrong(1, 1)", x.wrong(1, 1), 0);
            C.due("wrong(98, 1)", x.wrong(98, 1), 1);
            C.due("BY, TO of the first", x.of(0, 7) * 10 + x.of(0, 8), 1);
            C.due("BY, TO of the second", x.of(1, 7) * 10 + x.of(1, 8), 98);
        });
        B.refused("promise 3, BY of ten PEOPLE: the eleventh is refused", () -> Streets.peopled(10), BAD,
            x -> x.wrong(100, 1), x -> x.wrong(101, 1), x -> x.wrong(109, 1));
        B.refused("promise 3, BY: one that is not there is refused", Streets::rich, BAD, x -> x.wrong(40, 5), x -> x.wrong(90, 5));
        B.refused("promise 3, TO: one that is not there is refused", Streets::rich, BAD, x -> x.wrong(4, 5), x -> x.wrong(9, 5));
        B.refused("promise 3, bt below 0 is refused", Streets::rich, BAD, x -> x.wrong(-1, 5), x -> x.wrong(-9, 5),
            x -> x.wrong(-10, 5), x -> x.wrong(-12, 5), x -> x.wrong(MIN, 5));
        B.refused("promise 3, bt far too large is refused", Streets::rich, BAD, x -> x.wrong(MAX, 5), x -> x.wrong(MAX - 1, 5));
        B.refused("promise 3: BY and TO are unlike", Streets::rich, BAD, x -> x.wrong(0, 5), x -> x.wrong(11, 5), x -> x.wrong(33, 5));
        B.refused("promise 3: nobody is there", ForgivenStreet::new, BAD, x -> x.wrong(0, 1), x -> x.wrong(1, 1), x -> x.wrong(10, 1));
        B.refused("promise 3: one alone wrongs nobody", () -> Streets.peopled(1), BAD, x -> x.wrong(0, 1), x -> x.wrong(1, 1), x -> x.wrong(10, 1));
        C.test("promise 3: two are enough, both ways", () -> {
            ForgivenStreet x = Streets.peopled(2);
            C.due("wrong(1, 1)", x.wrong(1, 1), 0);
            C.due("wrong(10, 9)", x.wrong(10, 9), 1);
        });
        C.test("promise 3: the twelfth is taken, the thirteenth is FULL, and stays FULL", () -> {
            ForgivenStreet x = Streets.wronged(11, 3);
            C.due("the twelfth", x.wrong(10, 9), 11);
            C.due("the thirteenth", x.wrong(10, 9), FULL);
            C.due("once more", x.wrong(1, 1), FULL);
            C.due("count(1)", x.count(1), 12);
            C.due("WEIGHT of the twelfth", x.of(11, 3), 9);
        });
        B.refused("promise 3: FULL changes nothing", Streets::fullOfWrongs, FULL, x -> x.wrong(1, 1), x -> x.wrong(98, 9));
        B.refused("promise 3: BAD is ahead of FULL", Streets::fullOfWrongs, BAD,
            x -> x.wrong(0, 1), x -> x.wrong(-1, 1), x -> x.wrong(100, 1), x -> x.wrong(1, 0), x -> x.wrong(1, 10));
        C.test("promise 3: DAY is that of TODAY as it comes, 0 and 99; FORGIVEN 0 at first", () -> {
            ForgivenStreet x = Streets.peopled(2);
            x.wrong(1, 1);
            x.mend(0, 6, 99);
            x.wrong(1, 1);
            C.due("DAY of the first", x.of(0, 4), 0);
            C.due("DAY of the second", x.of(1, 4), 99);
            C.due("FORGIVEN", x.of(0, 5) + x.of(1, 5), 0);
        });
    }

    private static ForgivenStreet withBytes(int... values) {
        ForgivenStreet x = Streets.weighing();
        Streets.fill(x, 0, 0, values);
        return x;
    }

    private static void came(String what, int place, int n, int want, int... values) {
        ForgivenStreet x = withBytes(values);
        C.due(what, x.wrongs(0, place, n), want);
        C.due(what + ": count(1)", x.count(1), want);
    }

    private static void wrongsTaken() {
        B.ends("promise 4, SHELF 0 .. 5", Streets::rich, BAD, 0, 5, (x, v) -> x.wrongs(v, 0, 1));
        B.ends("promise 4, n 1 .. 12", Streets::rich, BAD, 1, 12, (x, v) -> x.wrongs(0, 0, v));
        C.test("promise 4: n of them, though the row has more", () -> {
            came("n is 1", 0, 1, 1, 0, 1, 5, 1, 0, 6, 0, 2, 7);
            came("n is 2", 0, 2, 2, 0, 1, 5, 1, 0, 6, 0, 2, 7);
        });
        C.test("promise 4: by threes BY, TO, WEIGHT", () -> {
            ForgivenStreet x = withBytes(2, 1, 9, 0, 2, 1);
            x.mend(0, 6, 99);
            C.due("wrongs", x.wrongs(0, 0, 2), 2);
            C.due("BY, TO", x.of(0, 7) * 10 + x.of(0, 8), 21);
            C.due("BY, TO", x.of(1, 7) * 10 + x.of(1, 8), 2);
            C.due("WEIGHTS", x.of(0, 3) * 10 + x.of(1, 3), 91);
            C.due("DAY is TODAY", x.of(1, 4), 99);
            C.due("FORGIVEN", x.of(1, 5), 0);
        });
        C.test("promise 4: twelve of a row of sixty", () -> {
            int[] sixty = new int[60];
            for (int i = 0; i < 60; i++) sixty[i] = i % 3 + i % 3 / 2 * (i / 3 % 7);
            ForgivenStreet x = withBytes(sixty);
            C.due("wrongs", x.wrongs(0, 0, 12), 12);
            C.due("WEIGHT of the last", x.of(11, 3), 2 + 11 % 7);
            C.due("the last three of the row, all are there", x.wrongs(0, 57, 1), 0);
        });
        C.test("promise 4: the last three of a row of sixty", () -> {
            int[] sixty = new int[60];
            sixty[57] = 2;
            sixty[58] = 1;
            sixty[59] = 8;
            ForgivenStreet x = withBytes(sixty);
            C.due("from 59 on", x.wrongs(0, 59, 12), 0);
            C.due("from 58 on", x.wrongs(0, 58, 12), 0);
            C.due("from 57 on", x.wrongs(0, 57, 12), 1);
            C.due("WEIGHT", x.of(0, 3), 8);
        });
    }

    private static void wrongsEnding() {
        C.test("promise 4: the row is missing: it ends, whatever the place", () -> {
            for (int place : new int[] {0, 1, -1, 60, MIN, MAX}) {
                ForgivenStreet x = Streets.weighing();
                C.due("from " + place, x.wrongs(3, place, 12), 0);
                C.due("count(1)", x.count(1), 0);
            }
        });
        C.test("promise 4: a shelf emptied again is missing", () -> {
            ForgivenStreet x = withBytes(0, 1, 5);
            x.keep(0, -1);
            C.due("wrongs", x.wrongs(0, 0, 1), 0);
        });
        C.test("promise 4: an empty row ends at once", () -> came("no element", 0, 12, 0));
        C.test("promise 4: it ends within a three", () -> {
            came("one element", 0, 12, 0, 0);
            came("two elements", 0, 12, 0, 0, 1);
            came("three", 0, 12, 1, 0, 1, 5);
            came("four", 0, 12, 1, 0, 1, 5, 1);
            came("five", 0, 12, 1, 0, 1, 5, 1, 0);
            came("six", 0, 12, 2, 0, 1, 5, 1, 0, 5);
        });
        C.test("promise 4, places: the last with a whole three, and those behind", () -> {
            int[] seven = {0, 0, 1, 0, 0, 1, 5};
            came("from 4 on", 4, 12, 1, seven);
            for (int place : new int[] {5, 6, 7, 8, 60, MAX - 2, MAX - 1, MAX}) came("from " + place, place, 12, 0, seven);
        });
        C.test("promise 4, places below 0: nothing is there, though threes behind would be so", () -> {
            for (int place : new int[] {-1, -2, -3, -6, MIN, MIN + 1, MIN + 2}) came("from " + place, place, 12, 0, 0, 1, 5, 0, 1, 5);
        });
        C.test("promise 4: it ends where BY is not so", () -> {
            for (int by : new int[] {-1, 3, 10, 127, -128}) came("BY " + by, 0, 12, 1, 0, 1, 5, by, 1, 5, 0, 1, 5);
        });
        C.test("promise 4: it ends where TO is not so", () -> {
            for (int to : new int[] {-1, 3, 10, 127, -128}) came("TO " + to, 0, 12, 1, 0, 1, 5, 0, to, 5, 0, 1, 5);
        });
        C.test("promise 4: it ends where BY and TO are like", () -> {
            for (int one : new int[] {0, 1, 2}) came("BY and TO " + one, 0, 12, 1, 0, 1, 5, one, one, 5, 0, 1, 5);
        });
        C.test("promise 4: it ends where WEIGHT is not so", () -> {
            for (int weight : new int[] {0, 10, -1, 127, -128}) came("WEIGHT " + weight, 0, 12, 1, 0, 1, 5, 0, 1, weight, 0, 1, 5);
            came("WEIGHTS 1 and 9", 0, 12, 2, 0, 1, 1, 0, 1, 9);
        });
        C.test("promise 4: the first is not so: none came", () -> came("first", 0, 12, 0, 0, 0, 5, 0, 1, 5));
        C.test("promise 4: it ends where WRONGS are FULL: those ahead came", () -> {
            ForgivenStreet x = Streets.wronged(10, 4);
            Streets.fill(x, 0, 0, 0, 1, 5, 1, 0, 6, 0, 2, 7);
            C.due("two of three", x.wrongs(0, 0, 3), 2);
            C.due("count(1)", x.count(1), 12);
            C.due("WEIGHTS", x.of(10, 3) * 10 + x.of(11, 3), 56);
            C.due("none of three", x.wrongs(0, 0, 3), 0);
            C.due("count(1)", x.count(1), 12);
        });
    }

    private static void wrongsRefused() {
        for (int sort = 1; sort < 5; sort++) {
            int other = sort;
            B.refused("promise 4: -12, a row of sort " + other, () -> {
                ForgivenStreet x = Streets.weighing();
                Streets.fill(x, 0, other, 0, 1, 5);
                return x;
            }, -12, x -> x.wrongs(0, 0, 1), x -> x.wrongs(0, -1, 12), x -> x.wrongs(0, MIN, 1), x -> x.wrongs(0, MAX, 1));
        }
        B.refused("promise 4: -12, a door", Streets::rich, -12, x -> x.wrongs(4, 0, 1), x -> x.wrongs(4, -1, 1));
        B.refused("promise 4: -12, an empty row of shorts", () -> {
            ForgivenStreet x = Streets.weighing();
            x.row(0, 1, 0);
            return x;
        }, -12, x -> x.wrongs(0, 0, 1));
        B.refused("promise 4: BAD is ahead of -12", Streets::rich, BAD, x -> x.wrongs(1, 0, 0), x -> x.wrongs(4, 0, 13));
        B.refused("promise 4: BAD is ahead of a missing row", Streets::rich, BAD, x -> x.wrongs(5, 0, 0), x -> x.wrongs(5, 0, 13));
        B.refused("promise 4: BAD is ahead of a place that is not there", Streets::rich, BAD, x -> x.wrongs(0, -1, 0), x -> x.wrongs(6, MAX, 1));
        C.test("promise 4: -12 is ahead of FULL WRONGS", () -> {
            ForgivenStreet x = Streets.fullOfWrongs();
            x.row(0, 1, 3);
            C.due("wrongs", x.wrongs(0, 0, 1), -12);
        });
    }

    /** PEOPLE 0, 1 in HOUSES 4, 5; WRONG 0 of 1 to 0, of WEIGHT 3. */
    private static ForgivenStreet told() {
        ForgivenStreet x = new ForgivenStreet();
        x.person(4);
        x.person(5);
        x.wrong(10, 3);
        return x;
    }

    private static void mend() {
        for (int w = 0; w < 7; w++) {
            int what = w;
            B.ends("promise 5, " + WHAT[what] + " becomes " + LEAST[what] + " .. " + MOST[what], BoundsFolk::told, VOID, LEAST[what], MOST[what],
                (x, v) -> x.mend(0, what, v));
            C.test("promise 5: mend() tells what " + WHAT[what] + " was, of() what it is", () -> {
                ForgivenStreet x = told();
                C.due("the first", x.mend(0, what, MOST[what]), FIRST[what]);
                C.due("the most", x.of(0, what), MOST[what]);
                C.due("the most was", x.mend(0, what, LEAST[what]), MOST[what]);
                C.due("the least", x.of(0, what), LEAST[what]);
                C.due("the least was", x.mend(0, what, LEAST[what]), LEAST[what]);
            });
            int last = what == 0 ? 11 : what == 6 ? 0 : what < 3 ? 1 : 0;
            B.ends("promise 5, the number of whose " + WHAT[what] + " it is", BoundsFolk::told, VOID, 0, last, (x, v) -> x.mend(v, what, 1));
        }
        B.ends("promise 5, what 0 .. 6", BoundsFolk::told, VOID, 0, 6, (x, v) -> x.mend(0, v, 1));
        B.refused("promise 5: BY and TO are not mended", BoundsFolk::told, VOID, x -> x.mend(0, 7, 0), x -> x.mend(0, 8, 1));
        B.refused("promise 5: nobody and no wrong to mend", ForgivenStreet::new, VOID,
            x -> x.mend(0, 1, 1), x -> x.mend(0, 2, 1), x -> x.mend(0, 3, 1), x -> x.mend(0, 4, 1), x -> x.mend(0, 5, 1));
        C.test("promise 5: the tenth of PEOPLE and the twelfth WRONG are mended", () -> {
            ForgivenStreet x = Streets.fullOfWrongs();
            C.due("HOUSE", x.mend(9, 1, 0), 9);
            C.due("HEART", x.mend(9, 2, 12), 6);
            C.due("WEIGHT", x.mend(11, 3, 9), 3);
            C.due("DAY", x.mend(11, 4, 99), 0);
            C.due("FORGIVEN", x.mend(11, 5, 1), 0);
            C.due("the eleventh", x.mend(10, 1, 0), VOID);
            C.due("the thirteenth", x.mend(12, 3, 1), VOID);
        });
        C.test("promise 5: only the one told is mended", () -> {
            ForgivenStreet x = Streets.fullOfWrongs();
            x.mend(5, 0, 7);
            x.mend(5, 1, 8);
            x.mend(5, 2, 9);
            x.mend(5, 3, 2);
            for (int k : new int[] {4, 6}) {
                C.due("NUMBER", x.of(k, 0), 0);
                C.due("HOUSE", x.of(k, 1), k);
                C.due("HEART", x.of(k, 2), 6);
                C.due("WEIGHT", x.of(k, 3), 1 + k);
            }
        });
        B.idle("promise 5: telling the same number changes nothing", Streets::rich,
            x -> x.mend(0, 0, x.of(0, 0)), x -> x.mend(1, 2, 9), x -> x.mend(2, 5, x.of(2, 5)), x -> x.mend(0, 6, x.of(0, 6)));
    }

    private static void of() {
        B.ends("promise 6, what 0 .. 8", BoundsFolk::told, VOID, 0, 8, (x, v) -> x.of(0, v));
        int[] last = {11, 1, 1, 0, 0, 0, 0, 0, 0};
        for (int w = 0; w < 9; w++) {
            int what = w;
            B.ends("promise 6, the number with what " + what, BoundsFolk::told, VOID, 0, last[what], (x, v) -> x.of(v, what));
        }
        C.test("promise 6: BY and TO", () -> {
            ForgivenStreet x = told();
            C.due("BY", x.of(0, 7), 1);
            C.due("TO", x.of(0, 8), 0);
        });
        B.refused("promise 6: nobody and no wrong", ForgivenStreet::new, VOID, x -> x.of(0, 1), x -> x.of(0, 2), x -> x.of(0, 3),
            x -> x.of(0, 4), x -> x.of(0, 5), x -> x.of(0, 7), x -> x.of(0, 8));
        C.test("promise 6: the last of the full", () -> {
            ForgivenStreet x = Streets.fullOfWrongs();
            C.due("HOUSE of 9", x.of(9, 1), 9);
            C.due("HOUSE of 10", x.of(10, 1), VOID);
            C.due("BY of 11", x.of(11, 7), 2);
            C.due("BY of 12", x.of(12, 7), VOID);
        });
    }

    private static void countsEnds() {
        B.ends("promise 9, WRONG of five", Streets::rich, BAD, 0, 4, (x, v) -> x.counts(v, 0));
        B.ends("promise 9, WRONG of twelve", Streets::fullOfWrongs, BAD, 0, 11, (x, v) -> x.counts(v, 0));
        B.ends("promise 9, HOUSE 0 .. 11", Streets::rich, BAD, 0, 11, (x, v) -> x.counts(0, v));
        B.refused("promise 9: there is no WRONG", () -> Streets.peopled(10), BAD, x -> x.counts(0, 0), x -> x.counts(-1, 0));
        B.idle("promise 9: nothing is changed", Streets::rich, x -> x.counts(0, 0), x -> x.counts(4, 11));
    }

    private static void plain(String what, int weight, int day, int today, int house, int want) {
        ForgivenStreet x = Streets.peopled(2);
        x.wrong(1, weight);
        x.mend(0, 4, day);
        x.mend(0, 6, today);
        C.due(what, x.counts(0, house), want);
        x.mend(0, 5, 1);
        C.due(what + ", FORGIVEN or not", x.counts(0, house), want);
    }

    private static void countsWithoutText() {
        C.test("promise 9, without a text: w by 3 is cut", () -> {
            int[] due = {1, 1, 2, 2, 2, 3, 3, 3, 4};
            for (int w = 1; w <= 9; w++) plain("WEIGHT " + w, w, 0, 0, 5, due[w - 1]);
        });
        C.test("promise 9, without a text: o where TO lives, not where BY lives", () -> {
            plain("TO", 3, 0, 0, 1, 3);
            plain("BY", 3, 0, 0, 0, 2);
        });
        C.test("promise 9, without a text: a by 20 is cut", () -> {
            plain("19 days", 9, 0, 19, 5, 4);
            plain("20 days", 9, 0, 20, 5, 3);
            plain("39 days", 9, 0, 39, 5, 3);
            plain("40 days", 9, 0, 40, 5, 2);
            plain("99 days", 9, 0, 99, 1, 1);
            plain("from 80 to 99", 9, 80, 99, 5, 4);
            plain("from 79 to 99", 9, 79, 99, 5, 3);
        });
        C.test("promise 9, without a text: a is 0 at least", () -> {
            plain("a day to come", 9, 99, 0, 5, 4);
            plain("the day itself", 9, 99, 99, 5, 4);
        });
        C.test("promise 9, without a text: held at 0", () -> {
            plain("0", 1, 0, 20, 5, 0);
            plain("below 0", 1, 0, 40, 5, 0);
            plain("far below 0", 1, 0, 99, 5, 0);
        });
    }
}
