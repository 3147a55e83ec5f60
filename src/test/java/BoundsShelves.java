/** The boundary cases of bodies, acts, shelves and counts: promises 34 to 43. */
public final class BoundsShelves {
    private static final int BAD = Bounds.BAD, FULL = Bounds.FULL;
    private static final int MIN = Bounds.MIN, MAX = Bounds.MAX;
    private static final long NONE = Long.MIN_VALUE;
    private static final Check C = new Check();
    private static final Bounds B = new Bounds(C);
    private static final String[] SORTS = {"bytes", "shorts", "ints", "longs", "booleans"};

    public static void main(String[] args) {
        body();
        actRefused();
        actWraps();
        trace();
        keep();
        rowEnds();
        row();
        putEnds();
        lowestBits();
        element();
        shiftRefused();
        shiftPlaces();
        shiftWithin();
        taken();
        count();
        C.named(34, 35, 36, 37, 38, 39, 40, 41, 42, 43);
        C.end("BoundsShelves");
    }

    private static void body() {
        B.ends("promise 34, KIND 0 .. 7", Streets::rich, BAD, 0, 7, (x, v) -> x.body(v));
        C.test("promise 34: BODIES 0 .. 49, then FULL, and FULL again", () -> {
            ForgivenStreet x = new ForgivenStreet();
            for (int b = 0; b < 50; b++) C.due("body", x.body(b % 8), b);
            C.due("the 51st", x.body(0), FULL);
            C.due("once more", x.body(7), FULL);
            C.due("count(4)", x.count(4), 50);
            C.due("the fiftieth acts", x.act(49, 0, 1), 53);
        });
        B.refused("promise 34: FULL changes nothing", Streets::fullOfBodies, FULL, x -> x.body(0), x -> x.body(7));
        B.refused("promise 34: BAD is ahead of FULL", Streets::fullOfBodies, BAD, x -> x.body(-1), x -> x.body(8), x -> x.body(MIN), x -> x.body(MAX));
    }

    /** One BODY of each KIND, numbered so. */
    private static ForgivenStreet doors() {
        ForgivenStreet x = new ForgivenStreet();
        for (int kind = 0; kind < 8; kind++) x.body(kind);
        return x;
    }

    private static void noAct(ForgivenStreet x, int body, int act) {
        x.act(7, 3, 1);
        C.due("fourteen ran", x.count(5), 14);
        C.due("act(" + body + ", " + act + ", 5)", x.act(body, act, 5), 0);
        C.due("no TRACE", x.trace(0), BAD);
        C.due("none ran", x.count(5), 0);
    }

    private static void actRefused() {
        C.test("promise 35: no such DOOR: 0, and no TRACE then", () -> {
            for (int bad : new int[] {-1, 8, 49, 50, MIN, MAX}) noAct(doors(), bad, 0);
        });
        C.test("promise 35: no such ACT: 0, and no TRACE then", () -> {
            for (int bad : new int[] {-1, 4, MIN, MAX}) {
                noAct(doors(), 0, bad);
                noAct(doors(), 7, bad);
            }
        });
        C.test("promise 35: no DOOR at all", () -> {
            ForgivenStreet x = new ForgivenStreet();
            for (int act = 0; act < 4; act++) C.due("act", x.act(0, act, 5), 0);
            C.due("no TRACE", x.trace(0), BAD);
        });
        C.test("promise 35: the last DOOR that is there acts, the next not", () -> {
            ForgivenStreet x = doors();
            C.due("7", x.act(7, 0, 5), 5 + 7 + 3);
            C.due("8", x.act(8, 0, 5), 0);
            x.body(0);
            C.due("8 now", x.act(8, 0, 5), 13);
        });
        C.test("promise 35: ACTS 0 and 3", () -> {
            ForgivenStreet x = doors();
            C.due("opens", x.act(0, 0, 5), 5);
            C.due("tells", x.act(0, 3, 5), 10 - 1);
        });
        C.test("promise 35: nothing but the TRACE is changed", () -> {
            ForgivenStreet x = Streets.rich();
            x.act(0, 0, 9);
            x.act(7, 3, 5);
            C.same("what is seen", Seen.of(x), Seen.of(Streets.rich()));
        });
    }

    private static int wrapped(int kind, int act, int x) {
        long opens = 1L * x + kind + (kind == 1 || kind == 4 || kind == 7 ? 3 : 0);
        if (kind == 6) opens *= 2;
        if (act == 0) return (int) opens;
        if (act == 1) return counted(kind, x);
        if (act == 2) return slammed(kind, x);
        int tells = (int) (1L * counted(kind, x) - slammed(kind, 1));
        return kind == 5 ? tells ^ 5 : kind == 7 ? (int) (tells - 1L) : tells;
    }

    private static int counted(int kind, int x) {
        if (kind == 3 || kind == 5) return (int) -(2L * wrapped(0, 0, (int) (x + 1L + kind)));
        long doubled = 2L * wrapped(kind, 0, x);
        return (int) (kind == 2 ? -doubled : kind == 7 ? doubled + slammed(7, 2) : doubled);
    }

    private static int slammed(int kind, int x) {
        long v = x ^ kind;
        if (kind == 3 || kind == 5) v *= 3;
        if (kind == 4 || kind == 7) v -= wrapped(kind, 0, 2);
        return (int) v;
    }

    private static void actWraps() {
        String[] acts = {"opens", "counts", "slams", "tells"};
        for (int a = 0; a < 4; a++) {
            int act = a;
            C.test("promise 35: x is an int that wraps, " + acts[act] + " of each KIND", () -> {
                for (int v : new int[] {0, 1, -1, 5, MAX, MAX - 1, MAX - 9, MIN, MIN + 1, MIN + 9, 1 << 30, -(1 << 30), 715827883}) {
                    ForgivenStreet x = doors();
                    for (int kind = 0; kind < 8; kind++) C.due(acts[act] + "(" + v + ") of " + kind, x.act(kind, act, v), wrapped(kind, act, v));
                }
            });
        }
        C.test("promise 35: the wraps of the least and the largest int, told plainly", () -> {
            ForgivenStreet x = doors();
            C.due("opens: MAX + 1", x.act(1, 0, MAX), MIN + 3);
            C.due("counts: MAX * 2", x.act(0, 1, MAX), -2);
            C.due("counts: MIN * 2", x.act(0, 1, MIN), 0);
            C.due("slams: MIN * 3 of 3", x.act(3, 2, MIN), MIN + 9);
            C.due("counts of a STAIR: MAX + 1, - of the double", x.act(3, 1, MAX), -6);
        });
        C.test("promise 35: n is the number of the body, 49 at most, not of its KIND", () -> {
            ForgivenStreet x = Streets.fullOfBodies();
            C.due("a TEA", x.act(49, 0, 0), 52);
            C.due("a DOOR", x.act(48, 0, 0), 48);
            C.due("slams", x.act(48, 2, 1), 49);
        });
    }

    private static void traced(int kind, int act, int... bodies) {
        ForgivenStreet x = doors();
        x.act(kind, act, 5);
        for (int i = 0; i < bodies.length; i++) C.due("KIND " + kind + ", act " + act + ", trace " + i, x.trace(i), bodies[i]);
        C.due("behind the last", x.trace(bodies.length), BAD);
        C.due("how many ran", x.count(5), bodies.length);
    }

    private static void trace() {
        B.ends("promise 36, of fourteen", Streets::rich, BAD, 0, 13, (x, v) -> x.trace(v));
        B.ends("promise 36, of one", () -> {
            ForgivenStreet x = doors();
            x.act(0, 0, 5);
            return x;
        }, BAD, 0, 0, (x, v) -> x.trace(v));
        B.refused("promise 36: 24 are kept at most", Streets::rich, BAD, x -> x.trace(23), x -> x.trace(24), x -> x.trace(25));
        B.refused("promise 36: no act yet", ForgivenStreet::new, BAD, x -> x.trace(0), x -> x.trace(-1), x -> x.trace(MAX));
        C.test("promise 36: as they began, the shortest and the longest", () -> {
            traced(0, 0, 1);
            traced(7, 3, 81, 2, 80, 10, 20, 1, 50, 11, 20, 1, 50, 11, 20, 1);
        });
        C.test("promise 36: the body of the next KIND above that has one", () -> {
            traced(1, 0, 20, 1);
            traced(4, 0, 20, 1);
            traced(5, 0, 1);
            traced(5, 1, 41, 30, 10, 1);
            traced(5, 2, 40, 11);
            traced(6, 3, 2, 10, 70, 1, 11);
            traced(7, 2, 50, 11, 20, 1);
        });
        C.test("promise 36: of the latest act alone", () -> {
            ForgivenStreet x = doors();
            x.act(7, 3, 5);
            x.act(0, 2, 5);
            C.due("slams", x.trace(0), 11);
            C.due("no more", x.trace(1), BAD);
        });
    }

    private static void keep() {
        B.ends("promise 37, SHELF 0 .. 5, a DOOR", Streets::rich, BAD, 0, 5, (x, v) -> x.keep(v, 0));
        B.ends("promise 37, SHELF 0 .. 5, nothing", Streets::rich, BAD, 0, 5, (x, v) -> x.keep(v, -1));
        B.ends("promise 37, BODY -1 (nothing) .. 7 of eight", Streets::rich, BAD, -1, 7, (x, v) -> x.keep(0, v));
        B.ends("promise 37, BODY -1 (nothing) .. 49", Streets::fullOfBodies, BAD, -1, 49, (x, v) -> x.keep(0, v));
        B.refused("promise 37: no BODY is there", () -> Streets.weighing(), BAD, x -> x.keep(0, 0), x -> x.keep(5, 1));
        C.test("promise 37: without a BODY nothing may be kept", () -> C.due("keep", new ForgivenStreet().keep(5, -1), 1));
        C.test("promise 37: nothing, a DOOR, a ROW take one another's place", () -> {
            ForgivenStreet x = doors();
            for (int shelf = 0; shelf < 6; shelf++) {
                C.due("a DOOR", x.keep(shelf, 7), 1);
                C.due("taken", x.taken(shelf, 0), 7);
                C.due("another DOOR", x.keep(shelf, 6), 1);
                C.due("taken", x.taken(shelf, 0), 6);
                C.due("a ROW", x.row(shelf, 0, 1), 1);
                C.due("taken", x.taken(shelf, 0), -12);
                C.due("put", x.put(shelf, 0, 5), 1);
                C.due("nothing", x.keep(shelf, -1), 1);
                C.due("put", x.put(shelf, 0, 5), -11);
                C.due("nothing again", x.keep(shelf, -1), 1);
                C.due("taken", x.taken(shelf, 0), -11);
                C.due("a ROW", x.row(shelf, 0, 1), 1);
                C.due("a DOOR", x.keep(shelf, 0), 1);
                C.due("put", x.put(shelf, 0, 5), -12);
            }
        });
        C.test("promise 37: the other shelves stay", () -> {
            ForgivenStreet x = doors();
            x.keep(1, 3);
            x.keep(0, 4);
            x.keep(2, 5);
            x.keep(0, -1);
            C.due("1", x.taken(1, 0), 3);
            C.due("2", x.taken(2, 0), 5);
            C.due("0", x.taken(0, 0), -11);
        });
    }

    private static void rowEnds() {
        B.ends("promise 38, SHELF 0 .. 5", Streets::rich, BAD, 0, 5, (x, v) -> x.row(v, 1, 3));
        B.ends("promise 38, sort 0 .. 4", Streets::rich, BAD, 0, 4, (x, v) -> x.row(0, v, 3));
        C.test("promise 38, n 0 .. 60 are taken", () -> {
            for (int sort = 0; sort < 5; sort++) {
                for (int n = 0; n <= 60; n++) C.due("n " + n, new ForgivenStreet().row(5, sort, n), 1);
            }
        });
        B.refused("promise 38, n above 60 is BAD", Streets::rich, BAD, x -> x.row(0, 0, 61), x -> x.row(5, 4, 62), x -> x.row(1, 1, MAX), x -> x.row(1, 1, MAX - 1));
        B.refused("promise 38, n below 0 is -14", Streets::rich, -14, x -> x.row(0, 0, -1), x -> x.row(5, 4, -2), x -> x.row(1, 1, MIN), x -> x.row(4, 1, MIN + 1));
        B.refused("promise 38: BAD (sort) is ahead of -14", Streets::rich, BAD, x -> x.row(0, -1, -1), x -> x.row(0, 5, -1), x -> x.row(0, MIN, MIN));
        B.refused("promise 38: BAD (SHELF) is ahead of -14", Streets::rich, BAD, x -> x.row(-1, 0, -1), x -> x.row(6, 0, -1), x -> x.row(MAX, 0, MIN));
    }

    private static void row() {
        C.test("promise 38: elements are 0 at first (false), to the last place", () -> {
            for (int sort = 0; sort < 5; sort++) {
                for (int n : new int[] {1, 59, 60}) {
                    ForgivenStreet x = new ForgivenStreet();
                    x.row(3, sort, n);
                    for (int i = 0; i < n; i++) C.due(SORTS[sort] + ", element " + i, x.element(3, i), 0);
                    C.due("behind the last", x.element(3, n), NONE);
                }
            }
        });
        C.test("promise 38: a row of 0 elements has no place", () -> {
            for (int sort = 0; sort < 5; sort++) {
                ForgivenStreet x = new ForgivenStreet();
                C.due("row", x.row(0, sort, 0), 1);
                C.due("put", x.put(0, 0, 1), -13);
                C.due("element", x.element(0, 0), NONE);
                C.due("it is there", x.taken(0, 0), -12);
            }
        });
        C.test("promise 38: a new row has nothing of the one ahead, shorter, longer, of another sort", () -> {
            ForgivenStreet x = new ForgivenStreet();
            x.row(0, 3, 60);
            for (int i = 0; i < 60; i++) x.put(0, i, -1);
            x.row(0, 3, 2);
            C.due("shorter", x.element(0, 1), 0);
            C.due("its end", x.element(0, 2), NONE);
            x.put(0, 0, 7);
            x.row(0, 0, 60);
            for (int i = 0; i < 60; i++) C.due("longer", x.element(0, i), 0);
        });
        C.test("promise 38: six rows are apart", () -> {
            ForgivenStreet x = new ForgivenStreet();
            for (int s = 0; s < 6; s++) x.row(s, 2, 60);
            for (int s = 0; s < 6; s++) {
                x.put(s, 0, 100 + s);
                x.put(s, 59, 200 + s);
            }
            for (int s = 0; s < 6; s++) {
                C.due("the first", x.element(s, 0), 100 + s);
                C.due("the last", x.element(s, 59), 200 + s);
            }
        });
    }

    /** rich(), with a row of sixty longs on SHELF 0. */
    private static ForgivenStreet sixty() {
        ForgivenStreet x = Streets.rich();
        x.row(0, 3, 60);
        return x;
    }

    private static void putEnds() {
        C.test("promise 39, SHELF 0 .. 5", () -> {
            for (int shelf = 0; shelf < 6; shelf++) {
                ForgivenStreet x = new ForgivenStreet();
                x.row(shelf, 2, 1);
                C.due("put", x.put(shelf, 0, 5), 1);
                C.due("element", x.element(shelf, 0), 5);
            }
        });
        B.refused("promise 39, other SHELVES are BAD", Streets::rich, BAD, x -> x.put(-1, 0, 1), x -> x.put(6, 0, 1), x -> x.put(MIN, 0, 1), x -> x.put(MAX, 0, 1));
        B.ends("promise 39, i 0 .. 5 of six", Streets::rich, -13, 0, 5, (x, v) -> x.put(0, v, 1));
        B.ends("promise 39, i 0 .. 59 of sixty", BoundsShelves::sixty, -13, 0, 59, (x, v) -> x.put(0, v, 1));
        B.refused("promise 39: -11, nothing is there", Streets::rich, -11, x -> x.put(5, 0, 1));
        B.refused("promise 39: -12, a door", Streets::rich, -12, x -> x.put(4, 0, 1));
        B.refused("promise 39: BAD is ahead of -13", Streets::rich, BAD, x -> x.put(6, -1, 1), x -> x.put(-1, 60, 1));
        B.refused("promise 39: -11 is ahead of -13", Streets::rich, -11, x -> x.put(5, -1, 1), x -> x.put(5, 60, 1), x -> x.put(5, MIN, 1), x -> x.put(5, MAX, 1));
        B.refused("promise 39: -12 is ahead of -13", Streets::rich, -12, x -> x.put(4, -1, 1), x -> x.put(4, 60, 1), x -> x.put(4, MIN, 1), x -> x.put(4, MAX, 1));
    }

    private static void kept(int sort, long v, long want) {
        ForgivenStreet x = new ForgivenStreet();
        x.row(2, sort, 3);
        C.due("put", x.put(2, 1, v), 1);
        C.due(SORTS[sort] + ": " + v, x.element(2, 1), want);
        C.due("the one ahead", x.element(2, 0), 0);
        C.due("the one behind", x.element(2, 2), 0);
    }

    private static void lowestBits() {
        long[] values = {0, 1, -1, 127, 128, -128, -129, 255, 256, 32767, 32768, -32768, -32769, 65535, 65536, Integer.MAX_VALUE,
            Integer.MAX_VALUE + 1L, Integer.MIN_VALUE, Integer.MIN_VALUE - 1L, 0xffffffffL, 0x100000000L, Long.MAX_VALUE, Long.MIN_VALUE, Long.MIN_VALUE + 1};
        C.test("promise 39, bytes keep their lowest bits", () -> {
            for (long v : values) kept(0, v, (byte) v);
            kept(0, 127, 127);
            kept(0, 128, -128);
            kept(0, -129, 127);
            kept(0, 256, 0);
        });
        C.test("promise 39, shorts keep their lowest bits", () -> {
            for (long v : values) kept(1, v, (short) v);
            kept(1, 32767, 32767);
            kept(1, 32768, -32768);
            kept(1, -32769, 32767);
            kept(1, 65536, 0);
        });
        C.test("promise 39, ints keep their lowest bits", () -> {
            for (long v : values) kept(2, v, (int) v);
            kept(2, MAX, MAX);
            kept(2, MAX + 1L, MIN);
            kept(2, MIN - 1L, MAX);
            kept(2, 0x100000000L, 0);
        });
        C.test("promise 39, longs keep all their bits", () -> {
            for (long v : values) kept(3, v, v);
        });
        C.test("promise 39, booleans: whether it is not 0, 1 or 0", () -> {
            for (long v : values) kept(4, v, v == 0 ? 0 : 1);
            for (int bit = 0; bit < 64; bit++) kept(4, 1L << bit, 1);
        });
        C.test("promise 39, booleans: 0 makes it false again", () -> {
            ForgivenStreet x = new ForgivenStreet();
            x.row(0, 4, 1);
            x.put(0, 0, 2);
            x.put(0, 0, 0);
            C.due("element", x.element(0, 0), 0);
        });
    }

    private static void element() {
        C.test("promise 40, SHELF 0 .. 5", () -> {
            for (int shelf = 0; shelf < 6; shelf++) {
                ForgivenStreet x = new ForgivenStreet();
                x.row(shelf, 0, 1);
                C.due("element", x.element(shelf, 0), 0);
            }
        });
        B.refused("promise 40: Long.MIN_VALUE, no such SHELF", Streets::rich, NONE, x -> x.element(-1, 0), x -> x.element(6, 0), x -> x.element(MIN, 0), x -> x.element(MAX, 0));
        B.refused("promise 40: Long.MIN_VALUE, nothing is there", Streets::rich, NONE, x -> x.element(5, 0), x -> x.element(5, -1), x -> x.element(5, MAX));
        B.refused("promise 40: Long.MIN_VALUE, a door", Streets::rich, NONE, x -> x.element(4, 0), x -> x.element(4, MIN));
        B.ends("promise 40, i 0 .. 5 of six", Streets::rich, NONE, 0, 5, (x, v) -> x.element(0, v));
        B.ends("promise 40, i 0 .. 59 of sixty", BoundsShelves::sixty, NONE, 0, 59, (x, v) -> x.element(0, v));
        C.test("promise 40: an element may be Long.MIN_VALUE itself", () -> {
            ForgivenStreet x = new ForgivenStreet();
            x.row(0, 3, 1);
            C.due("put", x.put(0, 0, NONE), 1);
            C.due("element", x.element(0, 0), NONE);
        });
        B.idle("promise 40: nothing is changed", Streets::rich, x -> x.element(0, 0), x -> x.element(3, 1));
    }

    /** rich(), with shorts on SHELVES 0 and 1, of six and of two elements; 3 longs, 4 a door, 5 nothing. */
    private static ForgivenStreet shifting() {
        ForgivenStreet x = Streets.rich();
        Streets.fill(x, 0, 1, 1, 2, 3, 4, 5, 6);
        Streets.fill(x, 1, 1, 7, 8);
        return x;
    }

    private static void shiftRefused() {
        C.test("promise 41, SHELVES 0 .. 5, both", () -> {
            for (int shelf = 0; shelf < 6; shelf++) {
                for (int other = 0; other < 6; other++) {
                    ForgivenStreet x = new ForgivenStreet();
                    Streets.fill(x, shelf, 1, 7, 8);
                    if (other != shelf) Streets.fill(x, other, 1, 0, 0);
                    C.due("shift", x.shift(shelf, 0, other, 1, 1), 1);
                    C.due("element", x.element(other, 1), 7);
                }
            }
        });
        for (int bad : new int[] {-1, 6, MIN, MAX}) {
            B.refused("promise 41, SHELF " + bad + " is BAD, of either", BoundsShelves::shifting, BAD, x -> x.shift(bad, 0, 1, 0, 1), x -> x.shift(0, 0, bad, 0, 1));
        }
        B.refused("promise 41: -11, nothing is there, of either", BoundsShelves::shifting, -11,
            x -> x.shift(5, 0, 0, 0, 1), x -> x.shift(0, 0, 5, 0, 1), x -> x.shift(5, 0, 5, 0, 0));
        B.refused("promise 41: -12, no ROWS", BoundsShelves::shifting, -12, x -> x.shift(4, 0, 0, 0, 1), x -> x.shift(0, 0, 4, 0, 1), x -> x.shift(4, 0, 4, 0, 0));
        C.test("promise 41: -12, unlike sorts, each with each other", () -> {
            for (int one = 0; one < 5; one++) {
                for (int other = 0; other < 5; other++) {
                    ForgivenStreet x = new ForgivenStreet();
                    x.row(0, one, 3);
                    x.row(1, other, 3);
                    C.due(SORTS[one] + " to " + SORTS[other], x.shift(0, 0, 1, 0, 3), one == other ? 3 : -12);
                    C.due("of none", x.shift(0, 0, 1, 0, 0), one == other ? 0 : -12);
                }
            }
        });
        B.refused("promise 41: BAD is ahead of -11", BoundsShelves::shifting, BAD, x -> x.shift(5, 0, 6, 0, 1), x -> x.shift(-1, 0, 5, 0, 1));
        B.refused("promise 41: BAD is ahead of -12 and -13", BoundsShelves::shifting, BAD, x -> x.shift(4, 0, 6, 0, 1), x -> x.shift(-1, -1, 0, -1, -1));
        B.refused("promise 41: -11 of either is ahead of -12", BoundsShelves::shifting, -11, x -> x.shift(4, 0, 5, 0, 1), x -> x.shift(5, 0, 4, 0, 1));
        B.refused("promise 41: -11 is ahead of -13", BoundsShelves::shifting, -11, x -> x.shift(0, 7, 5, -1, -1), x -> x.shift(5, -1, 0, 0, 61));
        B.refused("promise 41: -12 is ahead of -13", BoundsShelves::shifting, -12, x -> x.shift(0, 7, 3, -1, -1), x -> x.shift(4, -1, 0, 0, 61), x -> x.shift(0, 0, 3, 0, 61));
    }

    private static void shiftPlaces() {
        C.test("promise 41, the last places that are there", () -> {
            for (int[] d : new int[][] {{5, 1, 1}, {4, 0, 2}, {0, 0, 2}, {0, 1, 1}, {6, 2, 0}, {0, 2, 0}, {6, 0, 0}, {0, 0, 0}}) {
                ForgivenStreet x = shifting();
                C.due("from " + d[0] + " to " + d[1] + ", " + d[2], x.shift(0, d[0], 1, d[1], d[2]), d[2]);
                for (int k = 0; k < 2; k++) {
                    int want = k < d[1] || k >= d[1] + d[2] ? 7 + k : 1 + d[0] + k - d[1];
                    C.due("element " + k, x.element(1, k), want);
                }
            }
        });
        int[][] beyond = {{-1, 0, 1}, {0, -1, 1}, {-1, 0, 0}, {0, -1, 0}, {6, 0, 1}, {5, 0, 2}, {0, 2, 1}, {0, 1, 2}, {0, 0, 3}, {7, 0, 0}, {0, 3, 0}, {4, 0, 3},
            {MIN, 0, 1}, {0, MIN, 1}, {MAX, 0, 1}, {0, MAX, 1}, {MAX, 0, 0}, {0, MAX, 0}, {MIN, MIN, MIN}, {MAX, MAX, MAX}, {1, 1, MAX}, {2, 0, MAX - 1}, {0, 0, MAX}};
        for (int[] d : beyond) {
            B.refused("promise 41: -13, from " + d[0] + " to " + d[1] + ", " + d[2], BoundsShelves::shifting, -13, x -> x.shift(0, d[0], 1, d[1], d[2]));
        }
        for (int n : new int[] {-1, -6, MIN, MIN + 1}) {
            B.refused("promise 41: -13, n " + n + " below 0", BoundsShelves::shifting, -13, x -> x.shift(0, 0, 1, 0, n), x -> x.shift(0, 6, 1, 2, n), x -> x.shift(0, 3, 0, 3, n));
        }
        C.test("promise 41: empty rows, n 0 alone", () -> {
            ForgivenStreet x = new ForgivenStreet();
            x.row(0, 4, 0);
            x.row(1, 4, 0);
            C.due("0", x.shift(0, 0, 1, 0, 0), 0);
            C.due("1", x.shift(0, 0, 1, 0, 1), -13);
            C.due("from 1", x.shift(0, 1, 1, 0, 0), -13);
        });
        C.test("promise 41: sixty at once", () -> {
            ForgivenStreet x = new ForgivenStreet();
            x.row(0, 3, 60);
            x.row(5, 3, 60);
            for (int i = 0; i < 60; i++) x.put(0, i, Long.MAX_VALUE - i);
            C.due("61", x.shift(0, 0, 5, 0, 61), -13);
            C.due("60", x.shift(0, 0, 5, 0, 60), 60);
            for (int i = 0; i < 60; i++) C.due("element", x.element(5, i), Long.MAX_VALUE - i);
        });
    }

    private static void shiftWithin() {
        C.test("promise 41: in the same row, as they all were before: to the right and to the left", () -> {
            for (int i = 0; i <= 6; i++) {
                for (int j = 0; j <= 6; j++) {
                    int n = 6 - Math.max(i, j);
                    ForgivenStreet x = shifting();
                    C.due("shift", x.shift(0, i, 0, j, n), n);
                    for (int k = 0; k < 6; k++) C.due("from " + i + " to " + j + ", element " + k, x.element(0, k), k >= j && k < j + n ? 1 + k - j + i : 1 + k);
                }
            }
        });
        C.test("promise 41: the row it comes from stays", () -> {
            ForgivenStreet x = shifting();
            x.shift(0, 2, 1, 0, 2);
            for (int k = 0; k < 6; k++) C.due("element", x.element(0, k), 1 + k);
        });
        C.test("promise 41: the rows stay apart afterwards", () -> {
            ForgivenStreet x = shifting();
            x.shift(0, 0, 1, 0, 2);
            x.put(0, 0, 9);
            C.due("the other", x.element(1, 0), 1);
        });
    }

    private static void taken() {
        C.test("promise 42, SHELF 0 .. 5", () -> {
            ForgivenStreet x = doors();
            for (int shelf = 0; shelf < 6; shelf++) {
                x.keep(shelf, shelf);
                C.due("taken", x.taken(shelf, 0), shelf);
            }
        });
        B.refused("promise 42, other SHELVES are BAD", Streets::rich, BAD, x -> x.taken(-1, 0), x -> x.taken(6, 0), x -> x.taken(MIN, 0), x -> x.taken(MAX, 0));
        B.refused("promise 42, KINDS but 0 .. 7 are BAD", Streets::rich, BAD, x -> x.taken(4, -1), x -> x.taken(4, 8), x -> x.taken(4, MIN), x -> x.taken(4, MAX));
        B.refused("promise 42: -11, nothing is there", Streets::rich, -11, x -> x.taken(5, 0), x -> x.taken(5, 7));
        B.refused("promise 42: -12, rows", Streets::rich, -12, x -> x.taken(0, 0), x -> x.taken(1, 7), x -> x.taken(3, 0));
        B.refused("promise 42: BAD (KIND) is ahead of -11", Streets::rich, BAD, x -> x.taken(5, -1), x -> x.taken(5, 8));
        B.refused("promise 42: BAD (KIND) is ahead of -12", Streets::rich, BAD, x -> x.taken(0, -1), x -> x.taken(0, 8), x -> x.taken(4, 8));
        C.test("promise 42: each KIND for itself, for those above, and for no other", () -> {
            String[] above = {"0", "01", "02", "023", "014", "0235", "06", "0147"};
            ForgivenStreet x = doors();
            for (int kind = 0; kind < 8; kind++) {
                x.keep(3, kind);
                for (int k = 0; k < 8; k++) {
                    C.due("KIND " + kind + " for " + k, x.taken(3, k), above[kind].indexOf('0' + k) >= 0 ? kind : -12);
                }
            }
        });
        C.test("promise 42: its KIND, not its number", () -> {
            ForgivenStreet x = Streets.fullOfBodies();
            x.keep(0, 49);
            C.due("TEA", x.taken(0, 0), 1);
            x.keep(0, 47);
            C.due("GIRL", x.taken(0, 4), 7);
        });
    }

    private static void count() {
        B.ends("promise 43, what 0 .. 5", Streets::rich, BAD, 0, 5, (x, v) -> x.count(v));
        C.test("promise 43: nothing at first", () -> {
            for (int what = 0; what < 6; what++) C.due("count(" + what + ")", new ForgivenStreet().count(what), 0);
        });
        C.test("promise 43: the most of each", () -> {
            C.due("PEOPLE", Streets.peopled(10).count(0), 10);
            C.due("WRONGS", Streets.fullOfWrongs().count(1), 12);
            C.due("bytes", Streets.fullTape().count(2), 120);
            C.due("changes", Streets.changed().count(3), 40);
            C.due("BODIES", Streets.fullOfBodies().count(4), 50);
            C.due("ran", Streets.rich().count(5), 14);
        });
        C.test("promise 43: one of each", () -> {
            ForgivenStreet x = Streets.peopled(2);
            x.wrong(1, 1);
            x.feed(255);
            x.mend(0, 0, 1);
            x.body(0);
            x.act(0, 0, 0);
            int[] due = {2, 1, 1, 1, 1, 1};
            for (int what = 0; what < 6; what++) C.due("count(" + what + ")", x.count(what), due[what]);
        });
        C.test("promise 43: changes that may be undone, not those that may be done again", () -> {
            ForgivenStreet x = Streets.changed();
            x.undo();
            C.due("39", x.count(3), 39);
            x.redo();
            C.due("40", x.count(3), 40);
        });
    }
}
