/** THE LAW: what texts count, where their FAULTS are. */
public final class LawTests {
    private static final Check C = new Check();

    public static void main(String[] args) {
        values();
        lines();
        names();
        faults();
        shortTexts();
        C.end("LawTests");
    }

    private static void counts(String text, int want) {
        ForgivenStreet x = Streets.told();
        C.due("law " + text, Streets.enact(x, text), 1);
        C.due(text, x.counts(0, 2), want);
    }

    private static void values() {
        C.part("values");
        counts("8", 8);
        counts("0007", 7);
        counts("9999", 9);
        counts("-1", 0);
        counts("--6", 6);
        counts("2+3*2", 8);
        counts("(2+3)*1", 5);
        counts("9-3-2", 4);
        counts("9-(3-2)", 8);
        counts("8/4/2", 1);
        counts("7/2", 3);
        counts("-7/2+9", 6);
        counts("-7%4+9", 6);
        counts("7%4", 3);
        counts("7/0+4", 4);
        counts("7%0+4", 4);
        counts("3*3%4", 1);
        counts("9-2+1", 8);
        counts("1<2", 1);
        counts("2<2", 0);
        counts("2=2", 1);
        counts("2>1", 1);
        counts("1>2", 0);
        counts("5&-3", 1);
        counts("5&0", 0);
        counts("0|-3", 1);
        counts("0|0", 0);
        counts("1|0&0", 1);
        counts("(1|0)&0", 0);
        counts("1+1<1+2", 1);
        counts("1<2&3<4", 1);
        counts("(1<2)<3", 1);
        counts("!0+4", 5);
        counts("!5+4", 4);
        counts("!!5", 1);
        counts("-!0+5", 4);
        counts("!-1", 0);
        counts("2*-3+9", 3);
        counts("5--2", 7);
        counts("-2*3+9", 3);
        counts("9999*9999*9999*9999>0", 9999 * 9999 * 9999 * 9999 > 0 ? 1 : 0);
        counts("(9999*9999*43)/9999%10", Math.max(0, 9999 * 9999 * 43 / 9999 % 10));
        counts("((((((8))))))", 8);
        counts("------8", 8);
        counts("-(-(-(8)+8)+8)", 0);
        counts("!(!(!(0)))", 1);
        counts("(-(-(1)))+(-(-(1)))+----(-1)", 1);
    }

    private static void lines() {
        C.part("lines");
        counts("0?5;6", 6);
        counts("1?5;6", 5);
        counts("-1?5;6", 5);
        counts("0?5", 0);
        counts("0?5;0?6", 0);
        counts("0?5;2?6;7", 6);
        counts("4;5", 4);
        counts("0;5", 0);
        counts("1?0;5", 0);
        counts("0?1;0?2;0?3;0?4;5;6", 5);
        counts("1?0|4", 1);
        counts("0|1?3", 3);
        counts("1?((((((8))))))", 8);
        counts("((((((1))))))?8", 8);
        counts("1?4;((((((8))))))", 4);
        counts("w>6?a/10;h", 3);
        counts("w>7?a/10;h", 4);
    }

    private static void names() {
        C.part("names");
        counts("w", 7);
        counts("a/10", 3);
        counts("h", 4);
        counts("s", 2);
        counts("n", 5);
        counts("o", 1);
        ForgivenStreet x = Streets.told();
        Streets.enact(x, "s*3+o");
        C.due("by is none that sees", x.counts(0, 1), 0);
        C.due("one sees", x.counts(0, 3), 3);
        C.due("nobody sees", x.counts(0, 4), 0);
        x.mend(0, 4, 90);
        Streets.enact(x, "a+4");
        C.due("0 days at least", x.counts(0, 1), 4);
    }

    private static void fault(String text, int want) {
        ForgivenStreet x = Streets.told();
        C.due("fault of " + text, Streets.enact(x, text), want < 0 ? 1 : -100 - want);
        C.due("the model's fault of " + text, Model.fault(text), want);
    }

    private static void faults() {
        C.part("faults");
        fault("", 0);
        fault(" w", 0);
        fault("w ", 1);
        fault("x", 0);
        fault("W", 0);
        fault("12345", 4);
        fault("1234+12345", 9);
        fault("2w", 1);
        fault("w2", 1);
        fault("wa", 1);
        fault("w(", 1);
        fault("(w)(", 3);
        fault("w+", 2);
        fault("w+*", 2);
        fault("+w", 0);
        fault("w!", 1);
        fault("()", 1);
        fault("(w", 2);
        fault("(w;", 2);
        fault("(w?w)", 2);
        fault("w)", 1);
        fault("1<2<3", 3);
        fault("1<2=3", 3);
        fault("1<2&3<4=5", 7);
        fault("(1<2)<3>4", 7);
        fault("1<(2<3<4)", 6);
        fault("1<2?3<4;5<6", -1);
        fault("w?", 2);
        fault("w??", 2);
        fault("w?w?w", 3);
        fault("w?w;w?w", -1);
        fault("w;", 2);
        fault(";w", 0);
        fault("w;;w", 2);
        fault("?w", 0);
        fault("-", 1);
        fault("!", 1);
        fault("-------8", 6);
        fault("(((((((8", 6);
        fault("((((((8", 7);
        fault("((((((-8", 6);
        fault("(((-!-8)))", -1);
        fault("(((-!--8)))", 6);
        fault("-(-(-(-8)))", 6);
        fault("(((-!-8+-!-8)+--!-8)+8)+------8+-------8", 38);
        fault("w\u00ff", 1);
        fault("w\u0000", 1);
        StringBuilder most = new StringBuilder("w");
        for (int i = 0; i < 59; i++) most.append("+1");
        fault(most.toString() + " ", 119);
        fault(most.toString() + "+", 120);
        StringBuilder lines = new StringBuilder("8");
        for (int i = 0; i < 59; i++) lines.append(";7");
        fault(lines.toString(), -1);
        fault(lines.toString() + ";", 120);
        StringBuilder digits = new StringBuilder("w;");
        for (int i = 0; i < 118; i++) digits.append(i % 2 == 0 ? '3' : '|');
        fault(digits.substring(0, 119), -1);
    }

    /** Every text of up to five signs out of some that stand for all. */
    private static void shortTexts() {
        C.part("short texts");
        String signs = "w1-!()<+*|;?";
        int[] names = {7, 30, 4, 2, 5, 1};
        for (int length = 1; length <= 5; length++) {
            int many = (int) Math.round(Math.pow(signs.length(), length));
            ForgivenStreet x = Streets.told();
            for (int k = 0; k < many; k++) {
                // an object is good for 512 calls
                if (k % 60 == 0) x = Streets.told();
                StringBuilder sb = new StringBuilder();
                for (int i = 0, r = k; i < length; i++, r /= signs.length()) sb.append(signs.charAt(r % signs.length()));
                String text = sb.toString();
                int fault = Model.fault(text);
                C.due("law " + text, Streets.enact(x, text), fault < 0 ? 1 : -100 - fault);
                if (fault >= 0 || text.indexOf('?') >= 0 || text.indexOf(';') >= 0) continue;
                C.due(text, x.counts(0, 2), Math.max(0, Math.min(9, Model.value(text, names))));
            }
        }
    }
}
