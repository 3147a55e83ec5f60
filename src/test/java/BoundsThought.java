/** The boundary cases of calls in thought, of order, evenings and rings: promises 10 to 17. */
public final class BoundsThought {
    private static final int BAD = Bounds.BAD, NOT = Bounds.NOT, VOID = Bounds.VOID;
    private static final int MIN = Bounds.MIN, MAX = Bounds.MAX;
    private static final Check C = new Check();
    private static final Bounds B = new Bounds(C);

    public static void main(String[] args) {
        ends();
        refusedShelves();
        howManyCalls();
        whereCallsEnd();
        later();
        street();
        likeOnes();
        run();
        fewestEnds();
        fewestOrder();
        all();
        evening();
        ring();
        owes();
        B.idle("promises 10 to 17: in thought alone, nothing is changed", Streets::rich,
            x -> x.later(1, 40, 3), x -> x.street(1, 40, 0), x -> x.street(1, 2, 3), x -> x.run(1), x -> x.fewest(-1),
            x -> x.fewest(0), x -> x.all(3), x -> x.evening(0), x -> x.evening(1), x -> x.ring(), x -> x.owes(0));
        C.named(10, 11, 12, 13, 14, 15, 16, 17);
        C.end("BoundsThought");
    }

    private static void ends() {
        // shelf 4 holds a door, 0 and 3 other rows: refused too, but not as BAD
        B.ends("promise 10, SHELF 0 .. 5", Streets::rich, BAD, 0, 5, (x, v) -> x.later(v, 0, 0));
        B.ends("promise 10, n 0 .. 40", Streets::rich, BAD, 0, 40, (x, v) -> x.later(1, v, 0));
        B.ends("promise 10, HOUSE 0 .. 11", Streets::rich, BAD, 0, 11, (x, v) -> x.later(1, 0, v));
        B.ends("promise 11, SHELF 0 .. 5", Streets::rich, BAD, 0, 5, (x, v) -> x.street(v, 0, 0));
        B.ends("promise 11, n 0 .. 40", Streets::rich, BAD, 0, 40, (x, v) -> x.street(1, v, 0));
        B.ends("promise 11, what 0 .. 3", Streets::rich, BAD, 0, 3, (x, v) -> x.street(1, 0, v));
    }

    private static void refusedShelves() {
        B.refused("promise 10: -11, nothing is there", Streets::rich, -11, x -> x.later(5, 0, 0), x -> x.later(5, 40, 11));
        B.refused("promise 11: -11, nothing is there", Streets::rich, -11, x -> x.street(5, 0, 0), x -> x.street(5, 40, 3));
        for (int sort : new int[] {0, 2, 3, 4}) {
            B.refused("promises 10 and 11: -12, a row of sort " + sort, () -> {
                ForgivenStreet x = Streets.weighing();
                x.row(2, sort, 3);
                return x;
            }, -12, x -> x.later(2, 0, 0), x -> x.street(2, 0, 0), x -> x.later(2, 40, 11), x -> x.street(2, 40, 3));
        }
        B.refused("promises 10 and 11: -12, a door", Streets::rich, -12, x -> x.later(4, 0, 0), x -> x.street(4, 0, 0));
        B.refused("promise 10: BAD is ahead of -11", Streets::rich, BAD, x -> x.later(5, -1, 0), x -> x.later(5, 41, 0), x -> x.later(5, 0, 12));
        B.refused("promise 10: BAD is ahead of -12", Streets::rich, BAD, x -> x.later(4, -1, 0), x -> x.later(4, 41, 0), x -> x.later(3, 0, 12));
        B.refused("promise 11: BAD is ahead of -11", Streets::rich, BAD, x -> x.street(5, -1, 0), x -> x.street(5, 41, 0), x -> x.street(5, 0, 4));
        B.refused("promise 11: BAD is ahead of -12", Streets::rich, BAD, x -> x.street(4, -1, 0), x -> x.street(4, 41, 0), x -> x.street(3, 0, 4));
    }

    /** Three WRONGS of WEIGHTS 2, 3, 4 in weighing(); on SHELF 0 the CALLS told. */
    private static ForgivenStreet calling(int... calls) {
        ForgivenStreet x = Streets.weighing();
        x.wrong(1, 2);
        x.wrong(10, 3);
        x.wrong(12, 4);
        Streets.fill(x, 0, 1, calls);
        return x;
    }

    private static void howManyCalls() {
        C.test("promises 10 and 11, n 0: as it is now", () -> {
            ForgivenStreet x = calling(5, 16);
            x.mend(5, 0, 7);
            C.due("later", x.later(0, 0, 5), 7);
            C.due("bits", x.street(0, 0, 0), 0);
            C.due("all", x.street(0, 0, 1), 7);
            C.due("for nothing", x.street(0, 0, 2), NOT);
            C.due("alike", x.street(0, 0, 3), NOT);
        });
        C.test("promises 10 and 11: behind the first n, not one more", () -> {
            ForgivenStreet x = calling(5, 17, 29);
            int[] five = {0, 2, 5, 9, 9};
            int[] bits = {0, 1, 3, 7, 7};
            for (int n = 0; n <= 4; n++) {
                C.due("later", x.later(0, n, 5), five[n]);
                C.due("bits", x.street(0, n, 0), bits[n]);
            }
        });
        C.test("promises 10 and 11: the fortieth CALL is the last, the forty-first is none", () -> {
            int[] calls = new int[60];
            java.util.Arrays.fill(calls, 5);
            calls[39] = 12 + 6;
            calls[40] = 24 + 7;
            ForgivenStreet x = calling(calls);
            C.due("39", x.street(0, 39, 0), 1);
            C.due("40", x.street(0, 40, 0), 3);
            C.due("the fortieth", x.later(0, 40, 6), 3);
            C.due("the forty-first", x.later(0, 40, 7), 0);
        });
        C.test("promises 10 and 11: an empty row holds no CALLS", () -> {
            ForgivenStreet x = calling();
            x.mend(1, 5, 1);
            C.due("later", x.later(0, 40, 0), 0);
            C.due("bits", x.street(0, 40, 0), 2);
            C.due("all", x.street(0, 40, 1), 0);
            C.due("for nothing", x.street(0, 40, 2), NOT);
            C.due("alike", x.street(0, 40, 3), NOT);
        });
    }

    private static void whereCallsEnd() {
        C.test("promises 10 and 11: the last WRONG in the last HOUSE is a CALL, the next is none", () -> {
            C.due("35", calling(35).later(0, 1, 11), 4);
            C.due("35", calling(35).street(0, 1, 0), 4);
            C.due("36", calling(36).street(0, 1, 0), 0);
        });
        C.test("promises 10 and 11: the first WRONG in the first HOUSE is a CALL, below 0 is none", () -> {
            C.due("0", calling(0).later(0, 1, 0), 2);
            C.due("-1", calling(-1).street(0, 1, 0), 0);
            C.due("-12", calling(-12).street(0, 1, 0), 0);
        });
        C.test("promises 10 and 11: CALLS end there, what stands behind is none", () -> {
            for (int end : new int[] {36, -1, -12, 144, 32767, -32768}) {
                ForgivenStreet x = calling(5, end, 29);
                C.due("bits behind " + end, x.street(0, 40, 0), 1);
                C.due("the end itself counts not for nothing", x.street(0, 40, 2), NOT);
                C.due("later", x.later(0, 40, 5), 2);
            }
        });
        C.test("promises 10 and 11: of twelve WRONGS 143 is the last CALL, 144 is none", () -> {
            ForgivenStreet x = Streets.fullOfWrongs();
            Streets.fill(x, 0, 1, 143, 144, 0);
            C.due("bits", x.street(0, 40, 0), 1 << 11);
            C.due("later", x.later(0, 40, 11), 3);
        });
        C.test("promises 10 and 11: without a WRONG there is no CALL", () -> {
            ForgivenStreet x = Streets.weighing();
            Streets.fill(x, 0, 1, 0, 1);
            C.due("bits", x.street(0, 40, 0), 0);
            C.due("for nothing", x.street(0, 40, 2), NOT);
        });
    }

    private static void later() {
        C.test("promise 10: 999 at most, and it goes on from there", () -> {
            ForgivenStreet x = calling(11, 23);
            x.mend(11, 0, 996);
            C.due("998", x.later(0, 1, 11), 998);
            C.due("999", x.later(0, 2, 11), 999);
            x.mend(11, 0, 997);
            C.due("999 just so", x.later(0, 1, 11), 999);
            C.due("no more", x.later(0, 2, 11), 999);
            C.due("FORGIVEN all the same", x.street(0, 2, 0), 3);
        });
        C.test("promise 10: one behind the other, by NUMBERS as they rise", () -> {
            ForgivenStreet x = calling(0, 12, 24);
            Streets.enact(x, "n=0?1;n=1?2;n=3?5");
            for (int n = 0; n < 4; n++) C.due("n " + n, x.later(0, n, 0), new int[] {0, 1, 3, 8}[n]);
        });
        C.test("promise 10: what is FORGIVEN now counts for nothing in thought", () -> {
            ForgivenStreet x = calling(5);
            x.mend(0, 5, 1);
            C.due("later", x.later(0, 1, 5), 0);
        });
    }

    private static void street() {
        C.test("promise 11, what 0: none and all twelve", () -> {
            ForgivenStreet x = Streets.fullOfWrongs();
            Streets.fill(x, 0, 1, 0, 12, 24, 36, 48, 60, 72, 84, 96, 108, 120, 132);
            C.due("none", x.street(0, 0, 0), 0);
            C.due("eleven", x.street(0, 11, 0), 2047);
            C.due("all", x.street(0, 12, 0), 4095);
        });
        C.test("promise 11, what 0: those FORGIVEN now, too", () -> {
            ForgivenStreet x = calling(5);
            x.mend(2, 5, 1);
            C.due("bits", x.street(0, 1, 0), 5);
        });
        C.test("promise 11, what 1: all NUMBERS 0 and 999", () -> {
            ForgivenStreet x = calling(5);
            C.due("0", x.street(0, 0, 1), 0);
            for (int h = 0; h < 12; h++) x.mend(h, 0, 999);
            C.due("all", x.street(0, 0, 1), 11988);
            C.due("no more", x.street(0, 1, 1), 11988);
        });
        C.test("promise 11, what 2: the first of all, the last of n, none of n", () -> {
            ForgivenStreet x = calling(5, 17, 29, 5);
            C.due("none of three", x.street(0, 3, 2), NOT);
            C.due("the fourth", x.street(0, 4, 2), 3);
            C.due("of 40", x.street(0, 40, 2), 3);
            x.mend(0, 5, 1);
            C.due("the first", x.street(0, 1, 2), 0);
            C.due("the first of two", x.street(0, 40, 2), 0);
            C.due("of none", x.street(0, 0, 2), NOT);
        });
        C.test("promise 11, what 2: a CALL that counts 0, and then is not FORGIVEN", () -> {
            ForgivenStreet x = calling(5, 17, 5);
            Streets.enact(x, "n=0&w=2?0;w");
            C.due("the first", x.street(0, 1, 2), 0);
            C.due("the third counts", x.street(0, 3, 0), 3);
            C.due("NUMBER", x.later(0, 3, 5), 5);
        });
        C.test("promise 11, what 2: a CALL at 999 counts, though NUMBER stays", () -> {
            ForgivenStreet x = calling(5);
            x.mend(5, 0, 999);
            C.due("for nothing", x.street(0, 1, 2), NOT);
        });
    }

    private static int alike(int... numbers) {
        ForgivenStreet x = calling();
        Streets.numbers(x, numbers);
        return x.street(0, 0, 3);
    }

    private static void likeOnes() {
        C.test("promise 11, ALIKE: above 0 alone", () -> {
            C.due("all 0", alike(), NOT);
            C.due("0 but for one", alike(1), NOT);
            C.due("0 but for two", alike(1, 2), NOT);
            C.due("two of 1", alike(1, 1), 1);
        });
        C.test("promise 11, ALIKE: the first two and the last two", () -> {
            C.due("0 and 1", alike(7, 7), 1);
            C.due("0 and 11", alike(7, 0, 0, 0, 0, 0, 0, 0, 0, 0, 0, 7), 11);
            C.due("10 and 11", alike(1, 2, 3, 4, 5, 6, 7, 8, 9, 10, 999, 999), 131);
        });
        C.test("promise 11, ALIKE: of like ones the least", () -> {
            C.due("three of one", alike(0, 5, 0, 5, 5), 15);
            C.due("0 and 11 ahead of 1 and 2", alike(5, 6, 6, 0, 0, 0, 0, 0, 0, 0, 0, 5), 11);
            C.due("0 and 2 ahead of 1 and 3", alike(5, 6, 5, 6), 2);
        });
        C.test("promise 11, ALIKE: none of twelve unlike", () -> C.due("unlike", alike(1, 2, 3, 4, 5, 6, 7, 8, 9, 10, 11, 12), NOT));
        C.test("promise 11, ALIKE: behind the CALLS, not ahead", () -> {
            ForgivenStreet x = calling(5, 30);
            x.mend(5, 0, 2);
            C.due("ahead", x.street(0, 0, 3), NOT);
            C.due("behind two: 4 and 4", x.street(0, 2, 3), 66);
        });
    }

    private static void risen(String what, int many, int bits, int... numbers) {
        ForgivenStreet x = new ForgivenStreet();
        Streets.numbers(x, numbers);
        C.due(what + ": how many", x.run(0), many);
        C.due(what + ": which", x.run(1), bits);
    }

    private static void run() {
        B.ends("promise 12, what 0 .. 1", Streets::rich, BAD, 0, 1, (x, v) -> x.run(v));
        C.test("promise 12: all NUMBERS 0: one, the least", () -> risen("all 0", 1, 1));
        C.test("promise 12: all NUMBERS like: one, the least", () -> risen("all 999", 1, 1, 999, 999, 999, 999, 999, 999, 999, 999, 999, 999, 999, 999));
        C.test("promise 12: all rise: twelve", () -> risen("rising", 12, 4095, 0, 1, 2, 3, 4, 5, 6, 7, 8, 9, 10, 999));
        C.test("promise 12: all fall: one, the least", () -> risen("falling", 1, 1, 999, 10, 9, 8, 7, 6, 5, 4, 3, 2, 1, 0));
        C.test("promise 12: two like ones do not rise", () -> risen("5, 5, 6", 2, 5, 5, 5, 6));
        C.test("promise 12: the first and the last", () -> risen("0 and 11", 2, 1 | 1 << 11, 5, 5, 5, 5, 5, 5, 5, 5, 5, 5, 5, 6));
        C.test("promise 12: the last two", () -> risen("10 and 11", 2, 1 << 10 | 1 << 11, 9, 8, 7, 7, 6, 6, 5, 5, 4, 4, 3, 4));
        C.test("promise 12: not one behind the other needed", () -> risen("1, 9, 2, 2, 3", 3, 21, 1, 9, 2, 2, 3));
        C.test("promise 12: of like ones the least bits", () -> {
            risen("3 4 1 2", 2, 3, 3, 4, 1, 2);
            risen("1 5 2 4 3: 1 2 4 ahead of 1 2 3", 3, 13, 1, 5, 2, 4, 3);
            risen("5 5 6 6", 2, 5, 5, 5, 6, 6);
        });
        C.test("promise 12: RUN now, not in thought", () -> {
            ForgivenStreet x = calling(23, 11);
            x.street(0, 40, 0);
            C.due("how many", x.run(0), 1);
        });
    }

    /** In weighing(): WRONGS of the WEIGHTS told, NUMBERS 5 but for those of HOUSES 2, 3, 4 .. on. */
    private static ForgivenStreet sorting(int[] weights, int... fromTwo) {
        ForgivenStreet x = Streets.weighing();
        for (int weight : weights) x.wrong(1, weight);
        for (int h = 0; h < 12; h++) x.mend(h, 0, h < 2 ? 1 : h - 2 < fromTwo.length ? fromTwo[h - 2] : 9);
        return x;
    }

    private static ForgivenStreet lower(ForgivenStreet x, int house, int number) {
        x.mend(house, 0, number);
        return x;
    }

    private static void found(String what, ForgivenStreet x, int... calls) {
        C.due(what + ": how many", x.fewest(-1), calls.length);
        for (int k = 0; k < calls.length; k++) C.due(what + ": call " + k, x.fewest(k), calls[k]);
        C.due(what + ": no more", x.fewest(calls.length), NOT);
    }

    private static void notFound(String what, ForgivenStreet x) {
        for (int k : new int[] {-1, 0, 1, 2, MAX}) C.due(what + ": " + k, x.fewest(k), NOT);
    }

    private static void fewestEnds() {
        B.refused("promise 13, k: below -1 is BAD", Streets::rich, BAD, x -> x.fewest(-2), x -> x.fewest(-3), x -> x.fewest(MIN), x -> x.fewest(MIN + 1));
        C.test("promise 13: BAD is ahead of NOT", () -> {
            ForgivenStreet x = sorting(new int[0], 5, 4);
            C.due("-2", x.fewest(-2), BAD);
            C.due("-1", x.fewest(-1), NOT);
        });
        C.test("promise 13: in order, 0 calls, no k-th", () -> {
            found("all 0", new ForgivenStreet());
            found("like ones are in order", sorting(new int[] {1}, 5, 5, 6));
            C.due("the largest k", new ForgivenStreet().fewest(MAX), NOT);
        });
        C.test("promise 13: one call, of the gap just so; one less is too little", () -> {
            found("gap 3", sorting(new int[] {3}, 5, 2), 3);
            found("gap 3, 2 and 4 there", sorting(new int[] {2, 4}, 5, 2), 15);
            notFound("gap 3, 2 there", sorting(new int[] {2}, 5, 2));
        });
        C.test("promise 13: one call, of what the next allows just so; one more is too much", () -> {
            found("to 7 of 7", sorting(new int[] {5}, 5, 2, 7), 3);
            notFound("to 8 of 7", sorting(new int[] {6}, 5, 2, 7));
        });
        C.test("promise 13: two calls, and no third", () -> {
            found("two houses", sorting(new int[] {2, 2}, 5, 3, 6, 4), 3, 17);
            notFound("two houses, one wrong", sorting(new int[] {2}, 5, 3, 6, 4));
            notFound("three houses", sorting(new int[] {2, 2, 2}, 5, 3, 6, 4, 7, 5));
            C.due("the largest k", sorting(new int[] {2, 2}, 5, 3, 6, 4).fewest(MAX), NOT);
        });
        C.test("promise 13: not in order without WRONGS", () -> notFound("none", sorting(new int[0], 5, 4)));
        C.test("promise 13: FORGIVEN ones are no calls", () -> {
            ForgivenStreet x = sorting(new int[] {3, 3}, 5, 2);
            x.mend(0, 5, 1);
            found("the other", x, 15);
            x.mend(1, 5, 1);
            notFound("none", x);
        });
        C.test("promise 13: held at 999, it is in order", () -> {
            ForgivenStreet x = sorting(new int[] {9}, 5);
            for (int h = 2; h < 12; h++) x.mend(h, 0, h == 11 ? 995 : 999);
            found("995 and 9", x, 11);
            x.mend(11, 0, 989);
            notFound("989 and 9", x);
        });
        C.test("promise 13: the first HOUSE is never behind another", () -> {
            ForgivenStreet x = Streets.wronged(1, 9);
            x.mend(0, 0, 9);
            notFound("9 0 0", x);
            for (int h = 1; h < 11; h++) x.mend(h, 0, 9);
            found("the last alone", x, 11);
        });
    }

    private static void fewestOrder() {
        C.test("promise 13: in the second HOUSE and in the last", () -> {
            ForgivenStreet x = Streets.wronged(2, 2);
            for (int h = 0; h < 12; h++) x.mend(h, 0, h == 1 || h == 11 ? 3 : 5);
            notFound("gap 2 down to the second, 5 behind it", lower(x, 1, 2));
            found("both", lower(x, 1, 3), 1, 23);
            found("the last alone", lower(x, 1, 5), 11);
            x.mend(11, 0, 5);
            found("the second alone", lower(x, 1, 3), 1);
        });
        C.test("promise 13: two calls of the last two of twelve WRONGS", () -> {
            ForgivenStreet x = Streets.wronged(12, 2);
            for (int w = 0; w < 10; w++) x.mend(w, 5, 1);
            for (int h = 0; h < 12; h++) x.mend(h, 0, new int[] {1, 1, 5, 3, 6, 4, 9, 9, 9, 9, 9, 9}[h]);
            found("10 and 11", x, 123, 137);
            x.mend(11, 5, 1);
            notFound("10 alone", x);
        });
        C.test("promise 13: twelve WRONGS, and none helps", () -> {
            ForgivenStreet x = Streets.wronged(12, 1);
            x.mend(0, 0, 999);
            notFound("999 and 0", x);
        });
        C.test("promise 13: a WRONG that is not there is no call, whatever the law", () -> {
            ForgivenStreet x = sorting(new int[] {1}, 5, 3);
            Streets.enact(x, "1");
            notFound("two of 1 wanted", x);
        });
        C.test("promise 13: of like ones the first by numbers, one call", () -> found("WRONG 0", sorting(new int[] {3, 3, 3}, 5, 2), 3));
        C.test("promise 13: of like ones the first by numbers, two calls", () -> {
            found("WRONG 0 first", sorting(new int[] {2, 3, 2}, 5, 3, 6, 4), 3, 17);
            found("in the later house first", sorting(new int[] {2, 9, 3}, 5, 2, 6, 4), 5, 27);
        });
        C.test("promise 13: two calls in one HOUSE", () -> found("1 and 2 of gap 3", sorting(new int[] {1, 2}, 5, 2), 3, 15));
        C.test("promise 13: one call is fewer than two, though its number is greater", () -> found("WRONG 2", sorting(new int[] {1, 2, 3}, 5, 2), 27));
        C.test("promise 13: what counts for nothing is no call", () -> {
            ForgivenStreet x = sorting(new int[] {3, 3}, 5, 2);
            Streets.enact(x, "n=9?3;0");
            notFound("0 there", x);
        });
        C.test("promise 13: the second call counts by the NUMBER behind the first", () -> {
            ForgivenStreet x = sorting(new int[] {1, 1}, 5, 2);
            Streets.enact(x, "n=2?1;n=3?2");
            found("1 and then 2", x, 3, 15);
        });
    }

    private static void all() {
        B.ends("promise 14, HOUSE 0 .. 11", Streets::rich, BAD, 0, 11, (x, v) -> x.all(v));
        C.test("promise 14: no WRONGS: NUMBER as it is", () -> {
            ForgivenStreet x = new ForgivenStreet();
            x.mend(11, 0, 999);
            C.due("0", x.all(0), 0);
            C.due("999", x.all(11), 999);
        });
        C.test("promise 14: all are FORGIVEN: NUMBER as it is", () -> {
            ForgivenStreet x = Streets.wronged(12, 9);
            for (int w = 0; w < 12; w++) x.mend(w, 5, 1);
            C.due("0", x.all(3), 0);
            x.mend(11, 5, 0);
            C.due("one is not", x.all(3), 9);
        });
        C.test("promise 14: all twelve", () -> C.due("twelve by 9", Streets.wronged(12, 9).all(11), 108));
        C.test("promise 14: 999 at most", () -> {
            ForgivenStreet x = Streets.wronged(2, 4);
            for (int[] d : new int[][] {{990, 998}, {991, 999}, {992, 999}, {999, 999}}) {
                x.mend(3, 0, d[0]);
                C.due("from " + d[0], x.all(3), d[1]);
            }
        });
        C.test("promise 14: by numbers, NUMBER rising", () -> {
            ForgivenStreet x = calling();
            Streets.enact(x, "n=0&w=2?1;n=1&w=3?2;n=3&w=4?5");
            C.due("1, 2, 5", x.all(7), 8);
        });
    }

    private static ForgivenStreet evenings(int people, int... threes) {
        ForgivenStreet x = Streets.peopled(people);
        Streets.enact(x, "w");
        for (int i = 0; i + 1 < threes.length; i += 2) x.wrong(threes[i], threes[i + 1]);
        return x;
    }

    private static void best(String what, ForgivenStreet x, int much, int bits) {
        C.due(what + ": how much", x.evening(0), much);
        C.due(what + ": which", x.evening(1), bits);
    }

    private static void evening() {
        B.ends("promise 15, what 0 .. 1", Streets::rich, BAD, 0, 1, (x, v) -> x.evening(v));
        C.test("promise 15: nobody, no WRONGS: 0, none", () -> {
            best("nobody", new ForgivenStreet(), 0, 0);
            best("no wrongs", evenings(2), 0, 0);
        });
        C.test("promise 15: all FORGIVEN: 0, none", () -> {
            ForgivenStreet x = evenings(2, 1, 9);
            x.mend(0, 5, 1);
            best("forgiven", x, 0, 0);
        });
        C.test("promise 15: FORGIVEN ones are none, those behind are", () -> {
            ForgivenStreet x = evenings(4, 1, 9, 23, 4);
            best("both", x, 13, 3);
            x.mend(0, 5, 1);
            best("the second", x, 4, 2);
            x.mend(0, 5, 0);
            x.mend(1, 5, 1);
            best("the first", x, 9, 1);
        });
        C.test("promise 15: no two of one BY", () -> best("0 to 1, 0 to 2", evenings(3, 1, 3, 2, 4), 4, 2));
        C.test("promise 15: no two in one HOUSE, of one TO and of two", () -> {
            best("to 2 twice", evenings(3, 2, 3, 12, 4), 4, 2);
            ForgivenStreet x = evenings(4, 2, 3, 13, 4);
            best("2 and 3 apart", x, 7, 3);
            x.mend(2, 1, 3);
            best("2 and 3 in one", x, 4, 2);
        });
        C.test("promise 15: the ten of a ring of ten, by 9 each", () -> {
            ForgivenStreet x = Streets.tenWeighing();
            for (int p = 0; p < 10; p++) x.wrong(p * 10 + (p + 1) % 10, 9);
            best("ten", x, 90, 1023);
        });
        C.test("promise 15: the last two of twelve", () -> {
            ForgivenStreet x = Streets.tenWeighing();
            for (int w = 0; w < 10; w++) x.wrong(1, 1);
            x.wrong(23, 9);
            x.wrong(45, 9);
            best("10, 11 and the least of like ones", x, 19, 1 | 1 << 10 | 1 << 11);
        });
        C.test("promise 15: of like ones fewest", () -> best("4 ahead of 2 and 2", evenings(4, 1, 2, 32, 2, 2, 4), 4, 4));
        C.test("promise 15: of like ones fewest, then the least", () -> {
            best("WRONG 0", evenings(3, 1, 4, 2, 4), 4, 1);
            best("0 and 2 ahead of 1 and 2", evenings(4, 1, 4, 1, 4, 23, 4), 8, 5);
            best("1 and 2 ahead of 0 and 3", evenings(4, 2, 4, 3, 4, 12, 4, 13, 4), 8, 6);
        });
        C.test("promise 15: what counts 0 is none of the fewest", () -> {
            ForgivenStreet x = evenings(4, 1, 3, 23, 3);
            Streets.enact(x, "n=0?w;0");
            x.mend(3, 0, 1);
            best("the other counts 0", x, 3, 1);
            Streets.enact(x, "0");
            best("all count 0", x, 0, 0);
        });
        C.test("promise 15: at once, by NUMBERS as they are, though at 999", () -> {
            ForgivenStreet x = evenings(3, 1, 3, 12, 5);
            x.mend(1, 0, 999);
            x.mend(2, 0, 999);
            best("held NUMBERS count all the same", x, 8, 3);
        });
        C.test("promise 15: in the HOUSE of TO", () -> {
            ForgivenStreet x = evenings(2, 1, 3);
            Streets.enact(x, "n");
            x.mend(1, 0, 6);
            best("6", x, 6, 1);
            x.mend(1, 1, 5);
            best("moved", x, 0, 0);
        });
    }

    private static void ring() {
        C.test("promise 16: no WRONGS: NOT", () -> {
            C.due("nobody", new ForgivenStreet().ring(), NOT);
            C.due("ten", Streets.peopled(10).ring(), NOT);
        });
        C.test("promise 16: one WRONG is no ring", () -> C.due("one", Streets.wronged(1, 5).ring(), NOT));
        C.test("promise 16: twelve of one way are no ring", () -> C.due("twelve", Streets.wronged(12, 5).ring(), NOT));
        C.test("promise 16: two are the smallest", () -> C.due("two", evenings(2, 1, 5, 10, 5).ring(), 2));
        C.test("promise 16: ten are the largest, nine in a row are none", () -> {
            ForgivenStreet x = Streets.tenWeighing();
            for (int p = 0; p < 9; p++) x.wrong(p * 10 + p + 1, 1);
            C.due("nine", x.ring(), NOT);
            x.wrong(90, 1);
            C.due("ten", x.ring(), 10);
            x.wrong(91, 1);
            C.due("nine of them", x.ring(), 9);
            x.wrong(98, 1);
            C.due("two of them", x.ring(), 2);
        });
        C.test("promise 16: FORGIVEN ones count for none, each of a ring of three", () -> {
            for (int w = 0; w < 3; w++) {
                ForgivenStreet x = evenings(3, 1, 5, 12, 5, 20, 5);
                C.due("three", x.ring(), 3);
                x.mend(w, 5, 1);
                C.due("without " + w, x.ring(), NOT);
                x.mend(w, 5, 0);
                C.due("again", x.ring(), 3);
            }
        });
        C.test("promise 16: a ring of those who come first, others are in none", () -> {
            ForgivenStreet x = Streets.tenWeighing();
            x.wrong(1, 1);
            x.wrong(10, 1);
            x.wrong(89, 1);
            C.due("0 and 1", x.ring(), 2);
        });
        C.test("promise 16: the smallest of two, whichever comes first", () -> {
            C.due("two, then three", evenings(5, 1, 5, 10, 5, 23, 5, 34, 5, 42, 5).ring(), 2);
            C.due("three, then two", evenings(5, 1, 5, 12, 5, 20, 5, 34, 5, 43, 5).ring(), 2);
        });
        C.test("promise 16: a ring of those who come last", () -> {
            ForgivenStreet x = Streets.tenWeighing();
            for (int w = 0; w < 10; w++) x.wrong(1, 1);
            x.wrong(89, 1);
            x.wrong(98, 1);
            C.due("8 and 9", x.ring(), 2);
        });
        C.test("promise 16: a way into a ring is none of it", () -> C.due("0 1 2 3 1", evenings(4, 1, 5, 12, 5, 23, 5, 31, 5).ring(), 3));
    }

    private static void owes() {
        B.ends("promise 17, one of four PEOPLE", Streets::rich, VOID, 0, 3, (x, v) -> x.owes(v));
        B.ends("promise 17, one of ten PEOPLE", Streets::fullOfWrongs, VOID, 0, 9, (x, v) -> x.owes(v));
        B.refused("promise 17: nobody", ForgivenStreet::new, VOID, x -> x.owes(0), x -> x.owes(-1), x -> x.owes(MAX));
        C.test("promise 17: none, twelve of BY, twelve of TO", () -> {
            ForgivenStreet x = Streets.wronged(12, 5);
            C.due("BY", x.owes(0), 12);
            C.due("TO", x.owes(1), -12);
            C.due("neither", x.owes(2), 0);
        });
        C.test("promise 17: one each way is 0", () -> C.due("0", evenings(2, 1, 5, 10, 5).owes(0), 0));
        C.test("promise 17: FORGIVEN ones are none", () -> {
            ForgivenStreet x = evenings(2, 1, 5, 1, 5, 10, 5);
            x.mend(0, 5, 1);
            C.due("BY", x.owes(0), 0);
            x.mend(1, 5, 1);
            C.due("less than 0", x.owes(0), -1);
            C.due("TO", x.owes(1), 1);
            x.mend(2, 5, 1);
            C.due("all", x.owes(0), 0);
        });
    }
}
