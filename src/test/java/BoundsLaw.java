/** The boundary cases of THE TAPE and of THE LAW's text: promises 7 and 8, and the NAMES of promise 9. */
public final class BoundsLaw {
    private static final int BAD = Bounds.BAD, FULL = Bounds.FULL;
    private static final int MIN = Bounds.MIN, MAX = Bounds.MAX;
    private static final Check C = new Check();
    private static final Bounds B = new Bounds(C);

    public static void main(String[] args) {
        feed();
        law();
        textOf120();
        lines();
        chains();
        numbers();
        places();
        open();
        wraps();
        divides();
        truths();
        givesZero();
        held();
        names();
        C.named(7, 8, 9);
        C.end("BoundsLaw");
    }

    private static void feed() {
        B.ends("promise 7, a byte 0 .. 255", Streets::rich, BAD, 0, 255, (x, v) -> x.feed(v));
        C.test("promise 7: how many it has, 1 to 120; then FULL, and FULL again", () -> {
            ForgivenStreet x = new ForgivenStreet();
            for (int i = 1; i <= 120; i++) C.due("feed", x.feed(i), i);
            C.due("the 121st", x.feed(0), FULL);
            C.due("once more", x.feed(255), FULL);
            C.due("count(2)", x.count(2), 120);
        });
        B.refused("promise 7: FULL changes nothing", Streets::fullTape, FULL, x -> x.feed('w'), x -> x.feed(0), x -> x.feed(255));
        B.refused("promise 7: BAD is ahead of FULL", Streets::fullTape, BAD, x -> x.feed(-1), x -> x.feed(256), x -> x.feed(MIN), x -> x.feed(MAX));
        C.test("promise 7: the tape is fed anew behind law(), from 1 on", () -> {
            ForgivenStreet x = Streets.fullTape();
            x.law();
            C.due("feed", x.feed('w'), 1);
        });
    }

    private static void law() {
        C.test("promise 8: the tape is empty then, with 1", () -> {
            ForgivenStreet x = new ForgivenStreet();
            C.due("law", Streets.enact(x, "w"), 1);
            C.due("count(2)", x.count(2), 0);
            C.due("law", x.law(), -100);
        });
        C.test("promise 8: the tape is empty then, with a FAULT", () -> {
            ForgivenStreet x = new ForgivenStreet();
            C.due("law", Streets.enact(x, "w+"), -102);
            C.due("count(2)", x.count(2), 0);
            C.due("law", x.law(), -100);
        });
        C.test("promise 8: an empty tape is no TEXT, its FAULT the length, 0", () -> C.due("law", new ForgivenStreet().law(), -100));
        C.test("promise 8: with a FAULT the former law stands, or none", () -> {
            ForgivenStreet x = Streets.peopled(2);
            x.wrong(1, 9);
            C.due("law", Streets.enact(x, "7+"), -102);
            C.due("without a text", x.counts(0, 5), 4);
            C.due("law", Streets.enact(x, "6"), 1);
            C.due("law", Streets.enact(x, "7;"), -102);
            C.due("law", x.law(), -100);
            C.due("by the former", x.counts(0, 5), 6);
        });
        C.test("promise 8: a law takes the former one's place wholly", () -> {
            ForgivenStreet x = Streets.peopled(2);
            x.wrong(1, 9);
            Streets.enact(x, "0?1;0?2;3+4-5+6");
            C.due("the longer one", x.counts(0, 5), 8);
            Streets.enact(x, "0?5");
            C.due("the shorter one", x.counts(0, 5), 0);
        });
    }

    private static String repeated(String part, int many) {
        return part.repeat(many);
    }

    private static void textOf120() {
        C.test("promise 8: a TEXT of 120 bytes, the last one counts", () -> counts("00" + repeated("+0", 58) + "+7", 7));
        C.test("promise 8: a TEXT of 120 bytes with no ( ), one law behind the other", () -> {
            ForgivenStreet x = Streets.told();
            for (int due = 1; due < 6; due++) {
                C.due("law", Streets.enact(x, "-0" + repeated("+0", 58) + "+" + due), 1);
                C.due("the last one counts", x.counts(0, 2), due);
            }
        });
        C.test("promise 8: sixty LINES in 120 bytes", () -> {
            counts("00?8;" + repeated("0?9;", 28) + "6-1", 5);
            fault(repeated("8;", 60), 120);
        });
        C.test("promise 8: a tape of 120 bytes that ends too early, FAULT 120", () -> fault(repeated("w+", 60), 120));
        C.test("promise 8: a FAULT at the last of 120 bytes", () -> fault(repeated("w+", 59) + "wx", 119));
        C.test("promise 8: a FAULT at the first of 120 bytes", () -> fault(repeated("+w", 60), 0));
        C.test("promise 8: what came behind 120 bytes is not in THE LAW", () -> {
            ForgivenStreet x = Streets.peopled(2);
            x.wrong(1, 4);
            Streets.feedAll(x, "0" + repeated("+1", 59) + "0");
            C.due("FULL", x.feed('+'), FULL);
            C.due("law", x.law(), 1);
        });
    }

    private static void counts(String text, int want) {
        ForgivenStreet x = Streets.told();
        C.due("law of " + text, Streets.enact(x, text), 1);
        C.due(text, x.counts(0, 2), want);
    }

    private static void fault(String text, int want) {
        ForgivenStreet x = Streets.told();
        C.due("law of " + text, Streets.enact(x, text), -100 - want);
    }

    private static void lines() {
        C.test("promise 8, LINES: one or more", () -> {
            counts("8", 8);
            counts("0?8;7", 7);
            counts("0?8;0?7;6", 6);
        });
        C.test("promise 8, LINES: the first without a first E counts, though it is 0", () -> {
            counts("0;5", 0);
            counts("4;5", 4);
            counts("4;1?5", 4);
        });
        C.test("promise 8, LINES: the first whose first E is not 0 counts, though it counts 0", () -> {
            counts("1?5;6", 5);
            counts("1?0;6", 0);
            counts("0?4;2?5;6", 5);
        });
        C.test("promise 8, LINES: a first E below 0 is not 0", () -> {
            counts("-1?5;6", 5);
            counts("0-1?5;6", 5);
        });
        C.test("promise 8, LINES: none counts: 0", () -> {
            counts("0?5", 0);
            counts("0?5;0?6;0?7", 0);
        });
        C.test("promise 8, LINES: an empty one is a FAULT", () -> {
            fault(";", 0);
            fault(";w", 0);
            fault("w;", 2);
            fault("w;;w", 2);
        });
        C.test("promise 8, LINE: both E are there", () -> {
            fault("?w", 0);
            fault("w?", 2);
            fault("w?;w", 2);
        });
        C.test("promise 8, LINE: both are E, from | on", () -> {
            counts("0|4?0|4;9", 1);
            counts("0?9;0|4", 1);
        });
        C.test("promise 8, LINE: two E at most", () -> {
            fault("w?w?w", 3);
            fault("0;w?w?w", 5);
            counts("1?2;3?4", 2);
        });
        C.test("promise 8, LINE: ? and ; do not stand within ( )", () -> {
            fault("(w?w)", 2);
            fault("(w;w)", 2);
            fault("w?(w;w)", 4);
        });
    }

    private static void chains() {
        C.test("promise 8, E and A: one, two, three parts", () -> {
            counts("3|0", 1);
            counts("0|0", 0);
            counts("0|0|7", 1);
            counts("3&2", 1);
            counts("3&0", 0);
            counts("3&2&0", 0);
            counts("3&2&1", 1);
        });
        C.test("promise 8: & is within |", () -> {
            counts("1|0&0", 1);
            counts("0&0|1", 1);
            counts("(1|0)&0", 0);
        });
        C.test("promise 8, B: one comparison, not two behind one another", () -> {
            for (char first : "<=>".toCharArray()) {
                for (char second : "<=>".toCharArray()) {
                    fault("1" + first + "2" + second + "3", 3);
                    fault("(1" + first + "2" + second + "3)", 4);
                }
            }
        });
        C.test("promise 8, B: a comparison each on both sides of & | ? ; and within ( )", () -> {
            counts("1<2&2<3", 1);
            counts("2<1|2<3", 1);
            counts("1<2?2<3;1<2", 1);
            counts("(2>1)=1", 1);
            counts("1=(2>1)", 1);
        });
        C.test("promise 8, S and P: from the left", () -> {
            counts("9-3-2", 4);
            counts("9-3+2", 8);
            counts("8/4/2", 1);
            counts("9/2*2", 8);
            counts("9%5*2", 8);
            counts("8*3%5", 4);
        });
        C.test("promise 8: P is within S, S within B, B within A", () -> {
            counts("2+3*2", 8);
            counts("9-8/4", 7);
            counts("1+1<1+2", 1);
            counts("2=2&3", 1);
        });
        C.test("promise 8: two signs behind one another", () -> {
            for (String sign : new String[] {"|", "&", "<", "=", ">", "+", "*", "/", "%"}) {
                fault("w" + sign, 2);
                fault("w" + sign + sign + "w", 2);
                fault(sign + "w", 0);
            }
            counts("5--2", 7);
            counts("5+-2", 3);
            counts("2*-3+9", 3);
            counts("0|!0", 1);
        });
    }

    private static void numbers() {
        C.test("promise 8, a number: 1 digit and 4 are taken, 0 and 9999", () -> {
            counts("0", 0);
            counts("8", 8);
            counts("0007", 7);
            counts("9999=9998+1", 1);
            counts("1000-999", 1);
        });
        C.test("promise 8, a number: the fifth digit is a FAULT", () -> {
            fault("12345", 4);
            fault("00000", 4);
            fault("w+12345", 6);
            fault("(12345)", 5);
        });
        C.test("promise 8, a number: 12, 123 have their worth", () -> {
            counts("12-9", 3);
            counts("123-119", 4);
            counts("120/100", 1);
        });
        C.test("promise 8: a number or a NAME is not followed by an O", () -> {
            fault("2w", 1);
            fault("w2", 1);
            fault("wa", 1);
            fault("w(", 1);
            fault("2(", 1);
            fault("(w)w", 3);
            fault("(w)2", 3);
            fault("(w)(", 3);
            fault("w!", 1);
        });
        C.test("promise 8: the bytes beside 0 and 9 are no digits", () -> {
            fault("1:", 1);
            fault(":", 0);
            fault("1.", 1);
            fault("9;:", 2);
        });
    }

    private static void places() {
        C.test("promise 8, FAULT: the place of the first byte with which no TEXT goes on", () -> {
            fault("x", 0);
            fault("wx", 1);
            fault("w+x", 2);
            fault("(x", 1);
            fault("(w+(a*x", 6);
        });
        C.test("promise 8, FAULT: the length, if it ends too early", () -> {
            fault("-", 1);
            fault("!", 1);
            fault("(", 1);
            fault("(w", 2);
            fault("(w+", 3);
            fault("((w)", 4);
            fault("w?w;", 4);
        });
        C.test("promise 8: no blanks", () -> {
            fault(" ", 0);
            fault(" w", 0);
            fault("w ", 1);
            fault("w +1", 1);
            fault("w+ 1", 2);
            fault("1 2", 1);
        });
        C.test("promise 8: every byte that is no first byte of a TEXT", () -> {
            for (int c = 0; c < 256; c++) {
                ForgivenStreet x = Streets.told();
                x.feed(c);
                int due = "0123456789wahsno".indexOf(c) >= 0 ? 1 : "(!-".indexOf(c) >= 0 ? -101 : -100;
                C.due("byte " + c, x.law(), due);
            }
        });
        C.test("promise 8: every byte that does not go on behind a NAME", () -> {
            for (int c = 0; c < 256; c++) {
                ForgivenStreet x = Streets.told();
                x.feed('w');
                x.feed(c);
                C.due("byte " + c, x.law(), "|&<=>+-*/%?;".indexOf(c) >= 0 ? -102 : -101);
            }
        });
        C.test("promise 8: ( ) are closed, and hold something", () -> {
            fault("()", 1);
            fault("w)", 1);
            fault("(w))", 3);
            fault(")", 0);
            counts("((w))", 7);
        });
    }

    private static void open() {
        C.test("promise 8: six of one sign are open at once", () -> {
            counts("((((((8))))))", 8);
            counts("------8", 8);
            counts("!!!!!!8", 1);
            counts("-----8+9", 1);
        });
        C.test("promise 8: the seventh of one sign is a FAULT", () -> {
            fault("(((((((8)))))))", 6);
            fault("-------8", 6);
            fault("!!!!!!!8", 6);
        });
        C.test("promise 8: six of all three signs, then a seventh of each", () -> {
            counts("(-(!(-8))+9)", 9);
            for (String six : new String[] {"(-(!(-", "-(-(!(", "!-(!-("}) {
                for (String seventh : new String[] {"(", "!", "-"}) fault(six + seventh + "8", 6);
            }
        });
        C.test("promise 8: ! and - stay open until their O ends", () -> {
            fault("-(-(-(-8)))", 6);
            fault("!(!(!(!8)))", 6);
            counts("-(-(-(8)+8)+8)+8", 0);
        });
        C.test("promise 8: what is closed is open no more", () -> {
            counts("((((((1))))))+((((((2))))))", 3);
            counts("------1+------2", 3);
            counts("((((((1)))))+(2))", 3);
            counts("(((-!-8+-!-8)+--!-8)+8)+------0", 8);
            counts("0?((((((8))))));------8", 8);
            counts("!!!!!!0?((((((8))))));((((((7))))))", 7);
        });
        C.test("promise 8: the seventh in the second E and in the second LINE is a FAULT", () -> {
            fault("1?(((((((8", 8);
            fault("1?-------8", 8);
            fault("1?!!!!!!!8", 8);
            fault("1;(((((((8", 8);
            fault("1;1?-------8", 10);
        });
        C.test("promise 8: a seventh behind closed ones is a FAULT", () -> {
            fault("((((((1))))))+(((((((2", 20);
            fault("(1)+(((((((", 10);
            fault("-1+-------1", 9);
            fault("((((((1)+((", 10);
        });
        C.test("promise 8: - between two is not open", () -> {
            counts("9-((((((1))))))", 8);
            counts("9-------1", 8);
            fault("9--------1", 8);
        });
    }

    private static void wraps() {
        C.test("promise 8, ints that wrap: *", () -> {
            counts("9999*9999*21>0", 1);
            counts("9999*9999*22<0", 1);
            counts("1024*1024*4096=0", 1);
        });
        C.test("promise 8, ints that wrap: +", () -> {
            counts("9999*9999*21+9999*4000>0", 1);
            counts("9999*9999*21+9999*4999<0", 1);
        });
        C.test("promise 8, ints that wrap: - between two", () -> {
            counts("-9999*9999*21-9999*4000<0", 1);
            counts("-9999*9999*21-9999*4999>0", 1);
        });
        C.test("promise 8, ints that wrap: - ahead of the least int", () -> {
            counts("1024*1024*2048<0", 1);
            counts("-(1024*1024*2048)<0", 1);
            counts("-(1024*1024*2048)=1024*1024*2048", 1);
        });
        C.test("promise 8, ints that wrap: the least int by -1", () -> {
            counts("1024*1024*2048/-1<0", 1);
            counts("1024*1024*2048%-1=0", 1);
        });
        C.test("promise 8, comparisons do not wrap", () -> {
            counts("1024*1024*2048<1", 1);
            counts("1>1024*1024*2048", 1);
            counts("1024*1024*2048-1>-1", 1);
        });
    }

    private static void divides() {
        C.test("promise 8: / toward 0", () -> {
            counts("7/2=3", 1);
            counts("-7/2=-3", 1);
            counts("7/-2=-3", 1);
            counts("-7/-2=3", 1);
            counts("1/2=0", 1);
            counts("-1/2=0", 1);
        });
        C.test("promise 8: % toward 0", () -> {
            counts("7%4=3", 1);
            counts("-7%4=-3", 1);
            counts("7%-4=3", 1);
            counts("-7%-4=-3", 1);
        });
        C.test("promise 8: / by 0 gives 0", () -> {
            counts("7/0+4", 4);
            counts("0/0+4", 4);
            counts("-7/0+4", 4);
            counts("1024*1024*2048/0+4", 4);
            counts("7/(w-w)+4", 4);
        });
        C.test("promise 8: % by 0 gives 0", () -> {
            counts("7%0+4", 4);
            counts("0%0+4", 4);
            counts("-7%0+4", 4);
        });
        C.test("promise 8: all is worked out, nothing comes of it", () -> {
            counts("0&7/0|3", 1);
            counts("1|7/0", 1);
            counts("1?4;7/0", 4);
        });
    }

    private static void truths() {
        C.test("promise 8: < = > give 1, 0, on both sides of the like", () -> {
            counts("1<2", 1);
            counts("2<2", 0);
            counts("3<2", 0);
            counts("1=2", 0);
            counts("2=2", 1);
            counts("3=2", 0);
            counts("1>2", 0);
            counts("2>2", 0);
            counts("3>2", 1);
        });
        C.test("promise 8: ! gives 1, 0", () -> {
            counts("!0", 1);
            counts("!1", 0);
            counts("!5", 0);
            counts("!-1", 0);
            counts("!!5", 1);
        });
        C.test("promise 8: | and & give 1, 0 of others than 1, below 0 too", () -> {
            counts("5|7", 1);
            counts("5&7", 1);
            counts("-5|0", 1);
            counts("-5&-7", 1);
            counts("4&2", 1);
            counts("5&0", 0);
        });
    }

    private static void givesZero() {
        C.test("promise 8: what is not so gives 0, neither more nor less", () -> {
            for (String e : new String[] {"0|0", "5&0", "0&5", "0&0", "2<1", "2<2", "1=2", "2=1", "1>2", "2>2", "!5", "!-5", "7/0", "7%0"}) counts("(" + e + ")=0", 1);
        });
        C.test("promise 8: what is so gives 1, neither more nor less", () -> {
            for (String e : new String[] {"5|0", "0|5", "5|5", "5&7", "1<2", "2=2", "2>1", "!0"}) counts("(" + e + ")=1", 1);
        });
    }

    private static void held() {
        C.test("promise 9: held within 0 .. 9", () -> {
            counts("-1", 0);
            counts("0", 0);
            counts("1", 1);
            counts("8", 8);
            counts("9", 9);
            counts("10", 9);
            counts("9999", 9);
            counts("-9999", 0);
            counts("9999*9999*22", 0);
            counts("1024*1024*2048", 0);
            counts("1024*1024*2048-1", 9);
        });
        C.test("promise 9: held only at the end", () -> {
            counts("20-15", 5);
            counts("-3+8", 5);
            counts("12/2", 6);
        });
        C.test("promise 9: what is held at 0 counts for nothing", () -> {
            ForgivenStreet x = Streets.told();
            Streets.enact(x, "0-4");
            C.due("call", x.call(0, 2), 0);
            C.due("FORGIVEN", x.of(0, 5), 0);
            C.due("NUMBER", x.of(2, 0), 5);
        });
    }

    private static void names() {
        C.test("promise 9, w: WEIGHT 1 and 9", () -> {
            ForgivenStreet x = Streets.told();
            Streets.enact(x, "w");
            for (int weight : new int[] {1, 9}) {
                x.mend(0, 3, weight);
                C.due("w", x.counts(0, 2), weight);
            }
        });
        C.test("promise 9, a: 0 at least, 99 at most", () -> {
            counts("a=30", 1);
            ForgivenStreet x = Streets.told();
            Streets.enact(x, "a=99?9;a=1?1;a=0?5;7");
            int[][] dues = {{0, 99, 9}, {98, 99, 1}, {99, 99, 5}, {99, 98, 5}, {99, 0, 5}, {0, 0, 5}, {0, 1, 1}};
            for (int[] d : dues) {
                x.mend(0, 4, d[0]);
                x.mend(0, 6, d[1]);
                C.due("DAY " + d[0] + ", TODAY " + d[1], x.counts(0, 2), d[2]);
            }
        });
        C.test("promise 9, h: HEART of TO, 0 and 12, not of BY", () -> {
            ForgivenStreet x = Streets.told();
            Streets.enact(x, "h=12?9;h");
            x.mend(0, 2, 5);
            C.due("4", x.counts(0, 2), 4);
            x.mend(1, 2, 0);
            C.due("0", x.counts(0, 2), 0);
            x.mend(1, 2, 12);
            C.due("12", x.counts(0, 2), 9);
        });
        C.test("promise 9, s: nobody, all eight others, neither BY nor TO", () -> {
            ForgivenStreet x = new ForgivenStreet();
            for (int p = 0; p < 10; p++) x.person(6);
            x.wrong(49, 1);
            Streets.enact(x, "s");
            C.due("eight", x.counts(0, 6), 8);
            C.due("elsewhere", x.counts(0, 5), 0);
            x.mend(4, 1, 5);
            C.due("BY is none", x.counts(0, 5), 0);
            x.mend(9, 1, 5);
            C.due("TO is none", x.counts(0, 5), 0);
            x.mend(0, 1, 5);
            C.due("one", x.counts(0, 5), 1);
            C.due("seven", x.counts(0, 6), 7);
        });
        C.test("promise 9, n: NUMBER 0 and 999 of the HOUSE", () -> {
            ForgivenStreet x = Streets.told();
            Streets.enact(x, "n=999?9;n=0?1;5");
            C.due("5", x.counts(0, 2), 5);
            C.due("0", x.counts(0, 11), 1);
            x.mend(11, 0, 999);
            C.due("999", x.counts(0, 11), 9);
        });
        C.test("promise 9, o: 1 where TO lives, else 0, also where BY lives", () -> {
            ForgivenStreet x = Streets.told();
            Streets.enact(x, "o+4");
            C.due("TO", x.counts(0, 2), 5);
            C.due("BY", x.counts(0, 1), 4);
            C.due("nobody", x.counts(0, 11), 4);
        });
        C.test("promise 8: letters that are no NAMES, capitals too", () -> {
            for (int c = 'A'; c <= 'z'; c++) if ("wahsno".indexOf(c) < 0) fault("" + (char) c, "(!-".indexOf(c) >= 0 ? 1 : 0);
        });
    }
}
