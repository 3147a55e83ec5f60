import java.util.Arrays;

/** The boundary cases of post, choosing, painting, turns and draws: promises 18 to 24. */
public final class BoundsPainting {
    private static final int BAD = Bounds.BAD, NOT = Bounds.NOT, VOID = Bounds.VOID;
    private static final int MIN = Bounds.MIN, MAX = Bounds.MAX;
    private static final Check C = new Check();
    private static final Bounds B = new Bounds(C);

    public static void main(String[] args) {
        post();
        nearest();
        chosen();
        paintedRefused();
        judge();
        fitsRefused();
        fits();
        byTurnsEnds();
        byTurnsBest();
        byTurnsLike();
        drawnEnds();
        drawn();
        B.idle("promises 18 to 24: in thought alone, nothing is changed", Streets::rich,
            x -> x.post(0, 999), x -> x.nearest(0), x -> x.chosen(3), x -> x.judge(12, 3), x -> x.fits(12, 3, 1, 0),
            x -> x.fits(12, 3, 4, 2), x -> x.byTurns(1, 4, 0), x -> x.byTurns(21, 3, 1), x -> x.drawn(5, 3040, -1));
        C.named(18, 19, 20, 21, 22, 23, 24);
        C.end("BoundsPainting");
    }

    private static ForgivenStreet numbered(int... numbers) {
        ForgivenStreet x = new ForgivenStreet();
        Streets.numbers(x, numbers);
        return x;
    }

    private static void post() {
        B.ends("promise 18, HOUSE 0 .. 11", Streets::rich, BAD, 0, 11, (x, v) -> x.post(v, 0));
        B.ends("promise 18, v 0 .. 999", ForgivenStreet::new, BAD, 0, 999, (x, v) -> x.post(0, v));
        C.test("promise 18: at one with it at once, 0 steps", () -> {
            C.due("0", new ForgivenStreet().post(11, 0), 0);
            C.due("999", numbered(999).post(0, 999), 0);
        });
        C.test("promise 18: all round, 11 steps", () -> {
            ForgivenStreet x = numbered(1, 2, 3, 4, 5, 6, 7, 8, 9, 10, 11, 12);
            C.due("from 0 to 11", x.post(0, 12), 11);
            C.due("from 11 to 10", x.post(11, 11), 11);
            C.due("from 5 to 4", x.post(5, 5), 11);
        });
        C.test("promise 18: from the last one to the first", () -> {
            ForgivenStreet x = numbered(7, 8);
            C.due("from 11 to 0", x.post(11, 7), 1);
            C.due("from 11 to 1", x.post(11, 8), 2);
            C.due("from 10 to 0", x.post(10, 7), 2);
        });
        C.test("promise 18: to the right, not to the left", () -> C.due("5 is to the left", numbered(0, 0, 5, 0, 0, 0, 0, 0, 0, 5).post(3, 5), 6));
        C.test("promise 18: NOT, no house has it", () -> {
            C.due("1", new ForgivenStreet().post(0, 1), NOT);
            C.due("999", numbered(998).post(0, 999), NOT);
        });
    }

    private static void nearest() {
        B.ends("promise 19, v 0 .. 999", ForgivenStreet::new, BAD, 0, 999, (x, v) -> x.nearest(v));
        C.test("promise 19: of like ones the least", () -> {
            C.due("all like", new ForgivenStreet().nearest(0), 0);
            C.due("as far away as can be", new ForgivenStreet().nearest(999), 0);
            C.due("below and above, above first", numbered(6, 4, 99, 99, 99, 99, 99, 99, 99, 99, 99, 99).nearest(5), 0);
            C.due("below and above, below first", numbered(4, 6, 99, 99, 99, 99, 99, 99, 99, 99, 99, 99).nearest(5), 0);
            C.due("one nearer is ahead", numbered(4, 7, 99, 99, 99, 99, 99, 99, 99, 99, 99, 99).nearest(6), 1);
        });
        C.test("promise 19: the last HOUSE", () -> {
            ForgivenStreet x = numbered(1, 1, 1, 1, 1, 1, 1, 1, 1, 1, 1, 999);
            C.due("999", x.nearest(999), 11);
            C.due("501", x.nearest(501), 11);
            C.due("500", x.nearest(500), 0);
        });
        C.test("promise 19: all NUMBERS 999 and v 0", () -> {
            ForgivenStreet x = numbered(999, 999, 999, 999, 999, 999, 999, 999, 999, 999, 999, 999);
            C.due("0", x.nearest(0), 0);
            x.mend(11, 0, 998);
            C.due("998", x.nearest(0), 11);
        });
    }

    private static void chosen() {
        B.ends("promise 20, one of four PEOPLE", Streets::rich, BAD, 0, 3, (x, v) -> x.chosen(v));
        B.ends("promise 20, one of ten PEOPLE", () -> Streets.peopled(10), BAD, 0, 9, (x, v) -> x.chosen(v));
        B.refused("promise 20: nobody", ForgivenStreet::new, BAD, x -> x.chosen(0), x -> x.chosen(-1), x -> x.chosen(MAX));
        C.test("promise 20: a HOUSE each that nobody has chosen, ten of twelve", () -> {
            ForgivenStreet x = Streets.peopled(10);
            for (int p = 0; p < 10; p++) C.due("one " + p, x.chosen(p), p);
        });
        C.test("promise 20: HEART 0 is 0, HEART 12 is 108", () -> {
            ForgivenStreet x = numbered(50, 107, 109, 1, 54, 54, 54, 54, 54, 54, 54, 54);
            x.person(0);
            x.mend(0, 2, 0);
            C.due("0", x.chosen(0), 3);
            x.mend(0, 2, 12);
            C.due("108, of like ones the least", x.chosen(0), 1);
            x.mend(2, 0, 108);
            C.due("108", x.chosen(0), 2);
        });
        C.test("promise 20: those by lesser numbers choose first", () -> {
            ForgivenStreet x = numbered(54, 50, 60, 0, 0, 0, 0, 0, 0, 0, 0, 0);
            for (int p = 0; p < 3; p++) x.person(7);
            C.due("54", x.chosen(0), 0);
            C.due("50", x.chosen(1), 1);
            C.due("60", x.chosen(2), 2);
        });
        C.test("promise 20: one who comes later changes nothing for those ahead", () -> {
            ForgivenStreet x = Streets.peopled(2);
            int was = x.chosen(1);
            x.person(3);
            x.mend(2, 2, 0);
            C.due("as before", x.chosen(1), was);
        });
        C.test("promise 20: all NUMBERS 999, HEARTS 0", () -> {
            ForgivenStreet x = numbered(999, 999, 999, 999, 999, 999, 999, 999, 999, 999, 999, 999);
            for (int p = 0; p < 10; p++) x.person(0);
            x.mend(9, 2, 0);
            C.due("the tenth", x.chosen(9), 9);
        });
    }

    /** weighing() with WRONGS 0 and 1, of WEIGHTS 2 and 3; on SHELF 0 CALLS of both into HOUSE 4; on SHELF 1 what is painted. */
    private static ForgivenStreet painted(int... numbers) {
        ForgivenStreet x = Streets.weighing();
        x.wrong(1, 2);
        x.wrong(12, 3);
        Streets.fill(x, 0, 1, 4, 16);
        Streets.fill(x, 1, 1, numbers);
        return x;
    }

    /** Painted so: 0, 2 and then 6, which WRONG 1 would make it with WEIGHT 4. */
    private static ForgivenStreet paintedOn(int calls, int paint) {
        ForgivenStreet x = Streets.weighing();
        x.wrong(1, 2);
        x.wrong(12, 3);
        Streets.fill(x, calls, 1, 4, 16);
        Streets.fill(x, paint, 1, 0, 2, 6);
        return x;
    }

    private static void paintedRefused() {
        for (int s = 0; s < 6; s++) {
            int shelf = s;
            C.test("promise 21, SHELVES 0 .. 5: of CALLS and of what is painted, " + shelf, () -> {
                ForgivenStreet x = Streets.weighing();
                x.row(shelf, 1, 0);
                C.due("CALLS", x.judge(shelf * 10 + (shelf + 1) % 6, 0), -11);
                C.due("both", x.judge(shelf * 11, 0), NOT);
            });
        }
        B.refused("promise 21, ss: SHELVES that are not there are BAD", Streets::rich, BAD,
            x -> x.judge(6, 0), x -> x.judge(9, 0), x -> x.judge(16, 0), x -> x.judge(56, 0), x -> x.judge(60, 0), x -> x.judge(61, 0),
            x -> x.judge(99, 0), x -> x.judge(100, 0), x -> x.judge(111, 0), x -> x.judge(MAX, 0));
        B.refused("promise 21, ss below 0 is BAD", Streets::rich, BAD,
            x -> x.judge(-1, 0), x -> x.judge(-9, 0), x -> x.judge(-10, 0), x -> x.judge(-11, 0), x -> x.judge(MIN, 0));
        B.ends("promise 21, HOUSE 0 .. 11", Streets::rich, BAD, 0, 11, (x, v) -> x.judge(12, v));
        B.refused("promise 21: -11, nothing is there, of either", Streets::rich, -11, x -> x.judge(52, 0), x -> x.judge(15, 0), x -> x.judge(55, 0));
        B.refused("promise 21: -12, other rows or a door, of either", Streets::rich, -12,
            x -> x.judge(2, 0), x -> x.judge(32, 0), x -> x.judge(42, 0), x -> x.judge(10, 0), x -> x.judge(13, 0), x -> x.judge(14, 0));
        B.refused("promise 21: CALLS first, -12 of them ahead of -11 of what is painted", Streets::rich, -12, x -> x.judge(5, 0), x -> x.judge(45, 0));
        B.refused("promise 21: CALLS first, -11 of them ahead of -12 of what is painted", Streets::rich, -11, x -> x.judge(50, 0), x -> x.judge(54, 0));
        B.refused("promise 21: BAD is ahead of -11", Streets::rich, BAD, x -> x.judge(55, 12), x -> x.judge(15, -1), x -> x.judge(56, 0));
        B.refused("promise 21: BAD is ahead of -12", Streets::rich, BAD, x -> x.judge(4, 12), x -> x.judge(14, -1), x -> x.judge(46, 0));
    }

    private static void judge() {
        C.test("promise 21: nothing is painted: NOT", () -> C.due("judge", painted().judge(1, 4), NOT));
        C.test("promise 21: behind 0 CALLS first", () -> {
            C.due("so", painted(0).judge(1, 4), NOT);
            C.due("not so", painted(1).judge(1, 4), 0);
        });
        C.test("promise 21: as many as behind all CALLS, and one more", () -> {
            C.due("all", painted(0, 2, 5).judge(1, 4), NOT);
            C.due("one more", painted(0, 2, 5, 5).judge(1, 4), 3);
            C.due("two more", painted(0, 2, 5, 5, 5).judge(1, 4), 3);
        });
        C.test("promise 21: fewer than the CALLS", () -> C.due("two of three", painted(0, 2).judge(1, 4), NOT));
        C.test("promise 21: the first that is not so, though others behind are not", () -> {
            C.due("the second", painted(0, 3, 6, 7).judge(1, 4), 1);
            C.due("the third", painted(0, 2, 6, 7).judge(1, 4), 2);
        });
        C.test("promise 21: CALLS that end early: what is painted behind is too much", () -> {
            for (int end : new int[] {-1, 24, 32767, -32768}) {
                ForgivenStreet x = painted(0, 2, 2);
                x.put(0, 1, end);
                C.due("behind " + end, x.judge(1, 4), 2);
            }
        });
        C.test("promise 21: an empty row of CALLS", () -> {
            ForgivenStreet x = painted(0, 0);
            x.row(0, 1, 0);
            C.due("the second is too much", x.judge(1, 4), 1);
            x.row(1, 1, 1);
            C.due("one is so", x.judge(1, 4), NOT);
        });
        C.test("promise 21: 40 CALLS at most: 41 painted are so, the 42nd is too much", () -> {
            ForgivenStreet x = painted();
            x.row(0, 1, 60);
            x.row(1, 1, 41);
            C.due("41", x.judge(1, 7), NOT);
            x.row(1, 1, 42);
            C.due("42", x.judge(1, 7), 41);
            x.row(1, 1, 60);
            C.due("60", x.judge(1, 7), 41);
            x.row(0, 1, 40);
            C.due("40 CALLS", x.judge(1, 7), 41);
            x.row(0, 1, 39);
            C.due("39 CALLS", x.judge(1, 7), 40);
        });
        C.test("promise 21: NUMBER is 999 at most, what is painted more is not so", () -> {
            ForgivenStreet x = painted(998, 999, 999);
            x.mend(4, 0, 998);
            C.due("999", x.judge(1, 4), NOT);
            x.put(1, 1, 1000);
            C.due("1000", x.judge(1, 4), 1);
        });
        C.test("promise 21: what is painted below 0 is not so", () -> C.due("-2", painted(0, -2).judge(1, 4), 1));
        C.test("promise 21: the HOUSE told, the others do not matter", () -> {
            ForgivenStreet x = painted(0, 0, 0);
            C.due("11", x.judge(1, 11), NOT);
            C.due("4", x.judge(1, 4), 1);
        });
        C.test("promise 21: CALLS and what is painted on each two SHELVES", () -> {
            for (int calls = 0; calls < 6; calls++) {
                for (int paint = 0; paint < 6; paint++) {
                    if (paint == calls) continue;
                    C.due("SHELVES " + calls + ", " + paint, paintedOn(calls, paint).judge(10 * calls + paint, 4), 2);
                }
            }
        });
        C.test("promise 21: one row may be both", () -> {
            ForgivenStreet x = painted();
            Streets.fill(x, 1, 1, 0, 2);
            C.due("0, 2 into HOUSES 0 and 2", x.judge(11, 0), NOT);
        });
    }

    private static void fitsRefused() {
        B.ends("promise 22, what 0 .. 3", Streets::rich, BAD, 0, 3, (x, v) -> x.fits(12, 3, 0, v));
        B.ends("promise 22, HOUSE 0 .. 11", Streets::rich, BAD, 0, 11, (x, v) -> x.fits(12, v, 0, 0));
        for (int what = 0; what < 4; what++) {
            int w = what;
            B.ends("promise 22, the number with what " + w, Streets::rich, BAD, 0, w < 2 ? 3 : 4, (x, v) -> x.fits(12, 3, v, w));
        }
        B.refused("promise 22, ss: SHELVES that are not there are BAD", Streets::rich, BAD, x -> x.fits(-1, 3, 0, 0), x -> x.fits(-10, 3, 0, 0),
            x -> x.fits(16, 3, 0, 0), x -> x.fits(62, 3, 0, 0), x -> x.fits(100, 3, 0, 0), x -> x.fits(MIN, 3, 0, 0), x -> x.fits(MAX, 3, 0, 0));
        B.refused("promise 22: nobody and no WRONG is BAD, ahead of -11", ForgivenStreet::new, BAD,
            x -> x.fits(0, 0, 0, 0), x -> x.fits(0, 0, 0, 1), x -> x.fits(0, 0, 0, 2), x -> x.fits(0, 0, 0, 3));
        B.refused("promise 22: -11, nothing is there, of either", Streets::rich, -11, x -> x.fits(52, 3, 0, 0), x -> x.fits(15, 3, 0, 2));
        B.refused("promise 22: -12, other rows or a door, of either", Streets::rich, -12,
            x -> x.fits(2, 3, 0, 0), x -> x.fits(42, 3, 0, 2), x -> x.fits(13, 3, 0, 1), x -> x.fits(14, 3, 0, 3));
        B.refused("promise 22: CALLS first, -12 of them ahead of -11 of what is painted", Streets::rich, -12, x -> x.fits(45, 3, 0, 0));
        B.refused("promise 22: CALLS first, -11 of them ahead of -12 of what is painted", Streets::rich, -11, x -> x.fits(54, 3, 0, 0));
        B.refused("promise 22: BAD is ahead of -11", Streets::rich, BAD,
            x -> x.fits(55, 12, 0, 0), x -> x.fits(55, 0, 4, 0), x -> x.fits(55, 0, 5, 2), x -> x.fits(55, 0, 0, 4), x -> x.fits(56, 0, 0, 0));
        B.refused("promise 22: BAD is ahead of -12", Streets::rich, BAD,
            x -> x.fits(44, -1, 0, 0), x -> x.fits(44, 0, -1, 0), x -> x.fits(44, 0, 5, 3), x -> x.fits(44, 0, 0, -1));
    }

    private static void fits() {
        C.test("promise 22, HEARTS: all thirteen, the least is 0", () -> {
            ForgivenStreet x = painted();
            C.due("how many", x.fits(1, 4, 0, 0), 13);
            C.due("the least", x.fits(1, 4, 0, 1), 0);
        });
        C.test("promise 22, HEARTS: none, NOT", () -> {
            ForgivenStreet x = painted(1);
            C.due("how many", x.fits(1, 4, 0, 0), 0);
            C.due("the least", x.fits(1, 4, 0, 1), NOT);
        });
        C.test("promise 22, HEARTS: 0 alone and 12 alone", () -> {
            ForgivenStreet x = painted(0, 5);
            Streets.enact(x, "h=0?5;1");
            C.due("0: how many", x.fits(1, 4, 1, 0), 1);
            C.due("0: the least", x.fits(1, 4, 1, 1), 0);
            Streets.enact(x, "h=12?5;1");
            C.due("12: how many", x.fits(1, 4, 1, 0), 1);
            C.due("12: the least", x.fits(1, 4, 1, 1), 12);
            C.due("of another: none", x.fits(1, 4, 0, 0), 0);
        });
        C.test("promise 22, HEARTS: some of them", () -> {
            ForgivenStreet x = painted(0, 2);
            Streets.enact(x, "h/3");
            C.due("6, 7, 8", x.fits(1, 4, 1, 0), 3);
            C.due("the least", x.fits(1, 4, 1, 1), 6);
        });
        C.test("promise 22, HEARTS: of the tenth of PEOPLE", () -> {
            ForgivenStreet x = Streets.fullOfWrongs();
            Streets.enact(x, "h>10");
            Streets.fill(x, 0, 1, 143);
            Streets.fill(x, 1, 1, 0, 1);
            C.due("11 and 12", x.fits(1, 11, 9, 0), 2);
            C.due("the least", x.fits(1, 11, 9, 1), 11);
        });
        C.test("promise 22, WEIGHTS: all nine, the least is 1", () -> {
            ForgivenStreet x = painted();
            C.due("how many", x.fits(1, 4, 0, 2), 9);
            C.due("the least", x.fits(1, 4, 0, 3), 1);
        });
        C.test("promise 22, WEIGHTS: none, NOT", () -> {
            ForgivenStreet x = painted(0, 10);
            C.due("how many", x.fits(1, 4, 0, 2), 0);
            C.due("the least", x.fits(1, 4, 0, 3), NOT);
        });
        C.test("promise 22, WEIGHTS: 1 alone and 9 alone", () -> {
            for (int weight : new int[] {1, 9}) {
                ForgivenStreet x = painted(0, weight, weight + 3);
                C.due("how many", x.fits(1, 4, 0, 2), 1);
                C.due("the least", x.fits(1, 4, 0, 3), weight);
            }
        });
        C.test("promise 22, WEIGHTS: of the twelfth WRONG", () -> {
            ForgivenStreet x = Streets.fullOfWrongs();
            Streets.fill(x, 0, 1, 143);
            Streets.fill(x, 1, 1, 0, 8);
            C.due("how many", x.fits(1, 11, 11, 2), 1);
            C.due("the least", x.fits(1, 11, 11, 3), 8);
            C.due("of another: none", x.fits(1, 11, 10, 2), 0);
        });
        C.test("promise 22: CALLS and what is painted on each two SHELVES", () -> {
            for (int calls = 0; calls < 6; calls++) {
                for (int paint = 0; paint < 6; paint++) {
                    if (paint == calls) continue;
                    ForgivenStreet x = paintedOn(calls, paint);
                    C.due("SHELVES " + calls + ", " + paint, x.fits(10 * calls + paint, 4, 1, 2), 1);
                    C.due("the least", x.fits(10 * calls + paint, 4, 1, 3), 4);
                    C.due("HEARTS", x.fits(10 * calls + paint, 4, 1, 0), 0);
                }
            }
        });
        C.test("promise 22: of one FORGIVEN already all fit", () -> {
            ForgivenStreet x = painted(0, 0, 3);
            x.mend(0, 5, 1);
            C.due("how many", x.fits(1, 4, 0, 2), 9);
        });
        C.test("promise 22: too much painted fits none", () -> {
            ForgivenStreet x = painted(0, 2, 5, 5);
            C.due("HEARTS", x.fits(1, 4, 0, 0), 0);
            C.due("WEIGHTS", x.fits(1, 4, 0, 2), 0);
        });
        C.test("promise 22: HEART, WEIGHT and the changes are as before", () -> {
            ForgivenStreet x = painted(0, 2);
            x.mend(1, 2, 9);
            for (int what = 0; what < 4; what++) x.fits(1, 4, 1, what);
            C.due("HEART", x.of(1, 2), 9);
            C.due("WEIGHT", x.of(1, 3), 3);
            C.due("changes", x.count(3), 1);
        });
    }

    /** weighing() with WRONGS to 0 of the WEIGHTS told, then to 1 of those told. */
    private static ForgivenStreet turning(int[] toZero, int... toOne) {
        ForgivenStreet x = Streets.weighing();
        for (int weight : toZero) x.wrong(20, weight);
        for (int weight : toOne) x.wrong(21, weight);
        return x;
    }

    private static void byTurnsEnds() {
        B.ends("promise 23, n 1 .. 4", Streets::rich, VOID, 1, 4, (x, v) -> x.byTurns(1, v, 0));
        B.ends("promise 23, what 0 .. 1", Streets::rich, VOID, 0, 1, (x, v) -> x.byTurns(1, 1, v));
        B.refused("promise 23, ab: unlike", Streets::rich, VOID, x -> x.byTurns(0, 1, 0), x -> x.byTurns(11, 1, 0), x -> x.byTurns(33, 1, 1));
        B.refused("promise 23, ab: one that is not there", Streets::rich, VOID, x -> x.byTurns(4, 1, 0), x -> x.byTurns(40, 1, 0),
            x -> x.byTurns(9, 1, 0), x -> x.byTurns(90, 1, 0), x -> x.byTurns(45, 1, 0));
        B.refused("promise 23, ab below 0 and far too large", Streets::rich, VOID, x -> x.byTurns(-1, 1, 0), x -> x.byTurns(-9, 1, 0),
            x -> x.byTurns(-10, 1, 0), x -> x.byTurns(-12, 1, 0), x -> x.byTurns(100, 1, 0), x -> x.byTurns(101, 1, 0),
            x -> x.byTurns(MIN, 1, 0), x -> x.byTurns(MAX, 1, 0));
        B.refused("promise 23: nobody, and one alone", () -> Streets.peopled(1), VOID, x -> x.byTurns(1, 1, 0), x -> x.byTurns(10, 1, 0), x -> x.byTurns(0, 1, 0));
        C.test("promise 23, ab: the last two of ten, both ways", () -> {
            ForgivenStreet x = Streets.tenWeighing();
            x.mend(9, 0, 5);
            C.due("98", x.byTurns(98, 4, 0), 5);
            C.due("89", x.byTurns(89, 4, 0), -5);
            C.due("99", x.byTurns(99, 4, 0), VOID);
        });
    }

    private static void byTurnsBest() {
        C.test("promise 23: n 1 .. 4, the first one first, by turns", () -> {
            ForgivenStreet x = turning(new int[] {2, 3, 9}, 4, 5);
            int[] that = {9, 9 - 5, 9 + 3 - 5, 9 + 3 - 9};
            for (int n = 1; n <= 4; n++) C.due("n " + n, x.byTurns(1, n, 0), that[n - 1]);
            int[] turned = {5, 5 - 9, 9 - 9, 9 - 12};
            for (int n = 1; n <= 4; n++) C.due("the other one first, n " + n, x.byTurns(10, n, 0), turned[n - 1]);
        });
        C.test("promise 23: no WRONGS done to either: NUMBERS as they are, nothing first", () -> {
            ForgivenStreet x = turning(new int[0]);
            x.mend(0, 0, 999);
            for (int n = 1; n <= 4; n++) {
                C.due("999", x.byTurns(1, n, 0), 999);
                C.due("-999", x.byTurns(10, n, 0), -999);
            }
            C.due("nothing", x.byTurns(1, 4, 1), 12);
        });
        C.test("promise 23: WRONGS done by him and to others are not his", () -> {
            ForgivenStreet x = Streets.weighing();
            x.wrong(1, 5);
            x.wrong(2, 5);
            x.wrong(12, 5);
            C.due("that", x.byTurns(1, 1, 0), 0);
            C.due("nothing", x.byTurns(1, 1, 1), 12);
        });
        C.test("promise 23: FORGIVEN ones are none", () -> {
            ForgivenStreet x = turning(new int[] {9, 2}, 7);
            x.mend(0, 5, 1);
            C.due("that", x.byTurns(1, 1, 0), 2);
            C.due("first", x.byTurns(1, 1, 1), 1);
            x.mend(1, 5, 1);
            C.due("none", x.byTurns(1, 2, 0), -7);
            C.due("nothing", x.byTurns(1, 2, 1), 12);
        });
        C.test("promise 23: FORGIVEN ones are none in the second turn, either", () -> {
            ForgivenStreet x = turning(new int[] {9, 2, 3});
            x.mend(0, 5, 1);
            C.due("2 and 3", x.byTurns(1, 3, 0), 5);
            C.due("first", x.byTurns(1, 3, 1), 1);
            x.mend(2, 5, 1);
            C.due("2 alone", x.byTurns(1, 3, 0), 2);
            C.due("nothing first", x.byTurns(1, 3, 1), 12);
        });
        C.test("promise 23: NUMBER is 999 at most, of both", () -> {
            ForgivenStreet x = turning(new int[] {9, 9}, 9, 9);
            x.mend(0, 0, 985);
            C.due("994", x.byTurns(1, 1, 0), 994);
            C.due("999", x.byTurns(1, 3, 0), 990);
            x.mend(1, 0, 990);
            C.due("999 and 999", x.byTurns(1, 4, 0), 0);
            x.mend(0, 0, 0);
            C.due("9 and 999", x.byTurns(1, 2, 0), -990);
        });
        C.test("promise 23: at 999 nothing is gained: nothing first", () -> {
            ForgivenStreet x = turning(new int[] {9, 5});
            x.mend(0, 0, 999);
            C.due("nothing", x.byTurns(1, 1, 1), 12);
            x.mend(0, 0, 998);
            C.due("of like ones the least", x.byTurns(1, 1, 1), 0);
        });
        C.test("promise 23: both in one HOUSE: 0, nothing first", () -> {
            ForgivenStreet x = turning(new int[] {9}, 9);
            x.mend(0, 1, 1);
            for (int n = 1; n <= 4; n++) {
                C.due("that", x.byTurns(1, n, 0), 0);
                C.due("first", x.byTurns(1, n, 1), 12);
            }
        });
        C.test("promise 23: the twelfth WRONG may be the first forgiven", () -> {
            ForgivenStreet x = Streets.tenWeighing();
            for (int w = 0; w < 11; w++) x.wrong(1, 9);
            x.wrong(10, 1);
            C.due("first", x.byTurns(1, 1, 1), 11);
            C.due("that", x.byTurns(1, 1, 0), 1);
        });
        C.test("promise 23: each in his own HOUSE, where he lives now", () -> {
            ForgivenStreet x = turning(new int[] {9}, 2);
            x.mend(0, 1, 7);
            x.mend(7, 0, 100);
            C.due("109 less 2", x.byTurns(1, 2, 0), 107);
        });
    }

    private static void byTurnsLike() {
        C.test("promise 23: of like ones the least first", () -> {
            C.due("9 and 9", turning(new int[] {4, 9, 9}).byTurns(1, 1, 1), 1);
            C.due("both are forgiven at last", turning(new int[] {4, 9}).byTurns(1, 3, 1), 0);
        });
        C.test("promise 23: of like ones nothing first", () -> {
            C.due("one is left for the second turn", turning(new int[] {9}).byTurns(1, 3, 1), 12);
            C.due("there is but one turn", turning(new int[] {9}).byTurns(1, 2, 1), 0);
            C.due("what counts 0", countingNothing().byTurns(1, 4, 1), 12);
        });
        C.test("promise 23: what counts 0 now and more behind another", () -> {
            ForgivenStreet x = turning(new int[] {9, 2});
            Streets.enact(x, "n=0&w=2?1;n=1&w=9?9;0");
            C.due("2 first", x.byTurns(1, 3, 1), 1);
            C.due("1 and 9", x.byTurns(1, 3, 0), 10);
            C.due("in one turn 1", x.byTurns(1, 2, 0), 1);
        });
        C.test("promise 23: the lesser by number second, though it counts first, too", () -> {
            ForgivenStreet x = turning(new int[] {2, 9});
            Streets.enact(x, "n=0&w=2?1;n=0?3;n=3&w=2?9;0");
            C.due("3 and 9", x.byTurns(1, 3, 0), 12);
            C.due("first", x.byTurns(1, 3, 1), 1);
        });
        C.test("promise 23: a WRONG that is not there is none, whatever the law", () -> {
            ForgivenStreet x = turning(new int[] {9}, 9);
            Streets.enact(x, "5");
            C.due("5 and 5", x.byTurns(1, 4, 0), 0);
            C.due("5", x.byTurns(1, 3, 0), 0);
            C.due("5", x.byTurns(10, 1, 0), 5);
        });
        C.test("promise 23: n 2 and 4, what the other one does changes not what is first", () -> {
            ForgivenStreet x = turning(new int[] {2, 5}, 9, 9);
            C.due("n 2", x.byTurns(1, 2, 1), 1);
            C.due("n 4", x.byTurns(1, 4, 1), 0);
        });
    }

    private static ForgivenStreet countingNothing() {
        ForgivenStreet x = turning(new int[] {9});
        Streets.enact(x, "0");
        return x;
    }

    private static void drawnEnds() {
        C.test("promise 24, nm: all of 1 .. 30 years by 1 .. 40 days are taken, no others", () -> {
            ForgivenStreet x = new ForgivenStreet();
            x.mend(0, 0, 1);
            for (int nm = -250, asked = 0; nm <= 3300; nm++, asked++) {
                if (asked == 400) {
                    x = new ForgivenStreet();
                    x.mend(0, 0, 1);
                    asked = 0;
                }
                boolean taken = nm > 0 && nm / 100 >= 1 && nm / 100 <= 30 && nm % 100 >= 1 && nm % 100 <= 40;
                C.due("nm " + nm, x.drawn(0, nm, -1), taken ? nm / 100 : BAD);
            }
        });
        for (int nm : new int[] {100, 141, 3000, 3041, 1, 40, 99, 3101, 3140, 0, -1, -101, MIN, MAX}) {
            B.refused("promise 24, nm " + nm + " is refused", Streets::rich, BAD, x -> x.drawn(1, nm, -1), x -> x.drawn(1, nm, 0));
        }
        B.ends("promise 24, HOUSE -1 (all) .. 11", Streets::rich, BAD, -1, 11, (x, v) -> x.drawn(1, 203, v));
        C.test("promise 24, SEED: any int is taken", () -> {
            for (int seed : new int[] {0, 1, -1, MIN, MIN + 1, MAX - 1, MAX}) {
                for (int house = -1; house < 12; house++) drawnAs("SEED " + seed, seed, 1, 1, house, 3);
            }
        });
    }

    /** As drawn() in weighing() with so many WRONGS, of WEIGHTS 1, 2 .., in longs. */
    private static long lived(int seed, int years, int days, int house, int wrongs) {
        long z = seed & 0xffffffffL;
        long sum = 0;
        for (int y = 0; y < years; y++) {
            long[] numbers = new long[12];
            boolean[] forgiven = new boolean[wrongs];
            for (int d = 0; d < days; d++) {
                z = z * 1103515245L + 12345L & 0xffffffffL;
                int w = (int) ((z >> 8) % wrongs);
                if (!forgiven[w]) numbers[(int) ((z >> 16) % 12)] += w % 9 + 1;
                forgiven[w] = !forgiven[w];
            }
            sum += house < 0 ? Arrays.stream(numbers).sum() : numbers[house];
        }
        return sum;
    }

    private static void drawnAs(String what, int seed, int years, int days, int house, int wrongs) {
        ForgivenStreet x = Streets.weighing();
        for (int w = 0; w < wrongs; w++) x.wrong(1, w % 9 + 1);
        C.due(what + ", HOUSE " + house, x.drawn(seed, 100 * years + days, house), lived(seed, years, days, house, wrongs));
    }

    private static void drawn() {
        C.test("promise 24: z wraps as an int, >>> takes it as it is above 0", () -> {
            for (int seed = -20; seed < 20; seed++) {
                for (int house = -1; house < 12; house += 4) drawnAs("SEED " + seed * 107374182, seed * 107374182, 2, 7, house, 5);
            }
        });
        C.test("promise 24: one WRONG, and all twelve", () -> {
            for (int house = -1; house < 12; house++) {
                drawnAs("one", 9, 3, 40, house, 1);
                drawnAs("twelve", 9, 3, 40, house, 12);
            }
        });
        C.test("promise 24: the longest, 30 years of 40 days", () -> {
            for (int house = -1; house < 12; house++) drawnAs("3040", 77, 30, 40, house, 12);
        });
        C.test("promise 24: the shortest, one day of one year", () -> {
            for (int seed = 0; seed < 30; seed++) drawnAs("101", seed, 1, 1, -1, 12);
        });
        C.test("promise 24: without WRONGS nothing but TODAY goes on", () -> {
            ForgivenStreet x = numbered(1, 2, 3);
            C.due("all", x.drawn(7, 3040, -1), 180);
            C.due("HOUSE 1", x.drawn(7, 3040, 1), 60);
            C.due("HOUSE 11", x.drawn(7, 3040, 11), 0);
        });
        C.test("promise 24: all NUMBERS at the ends, of 999 each 30 times", () -> {
            ForgivenStreet x = Streets.wronged(12, 9);
            for (int h = 0; h < 12; h++) x.mend(h, 0, 999);
            C.due("all", x.drawn(5, 3040, -1), 30 * 12 * 999);
            C.due("one", x.drawn(5, 3040, 0), 30 * 999);
        });
        C.test("promise 24: 999 at most", () -> {
            ForgivenStreet x = Streets.wronged(1, 9);
            for (int h = 0; h < 12; h++) x.mend(h, 0, 995);
            C.due("one day", x.drawn(5, 101, -1), 12 * 995 + 4);
        });
        C.test("promise 24: what is FORGIVEN now is done again first", () -> {
            ForgivenStreet x = Streets.wronged(1, 9);
            x.mend(0, 5, 1);
            C.due("the first day", x.drawn(5, 101, -1), 0);
            C.due("the second day", x.drawn(5, 102, -1), 9);
        });
        C.test("promise 24: what counts 0 stays as it is", () -> {
            ForgivenStreet x = Streets.wronged(1, 9);
            Streets.enact(x, "a<3?0;a");
            C.due("on the fourth day 3", x.drawn(5, 104, -1), 3);
            C.due("on the third nothing", x.drawn(5, 103, -1), 0);
        });
        C.test("promise 24: TODAY is one more each day, DAY is TODAY as it is done again", () -> {
            ForgivenStreet x = Streets.wronged(1, 9);
            Streets.enact(x, "a+1");
            C.due("1, again on day 1, then a is 1", x.drawn(5, 103, -1), 3);
            x.mend(0, 6, 5);
            C.due("a is 5, again on day 6, then a is 1", x.drawn(5, 103, -1), 6 + 2);
        });
        C.test("promise 24: TODAY 99 stays", () -> {
            ForgivenStreet x = Streets.wronged(1, 9);
            Streets.enact(x, "a+1");
            x.mend(0, 6, 98);
            x.mend(0, 4, 98);
            C.due("1, again on 99, then a is 0", x.drawn(5, 103, -1), 2);
            Streets.enact(x, "a>98?7;0");
            x.mend(0, 4, 0);
            C.due("98 is too early", x.drawn(5, 101, -1), 0);
            C.due("99", x.drawn(5, 102, -1), 7);
            C.due("done again, and never so old again", x.drawn(5, 140, -1), 7);
        });
    }
}
