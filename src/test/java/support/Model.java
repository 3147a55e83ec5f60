import java.util.ArrayList;
import java.util.Arrays;
import java.util.List;

/**
 * The document told a second time, as plainly as can be: whole copies, every subset and every order tried, the law
 * read anew from its text at each use, DOORS as Java classes, ROWS as Java arrays. Only tests use it.
 */
final class Model {
    static final int BAD = -1, NOT = -2, FULL = -3, STATE = -5, VOID = -2000000000;

    static final class Wrong implements Cloneable {
        int by, to, weight, day;
        boolean forgiven;
        Wrong copy() {
            Wrong w = new Wrong();
            w.by = by; w.to = to; w.weight = weight; w.day = day; w.forgiven = forgiven;
            return w;
        }
    }

    static final class World {
        int[] numbers = new int[12];
        List<int[]> people = new ArrayList<>();
        List<Wrong> wrongs = new ArrayList<>();
        int today;
        int[] led = new int[6];
        World copy() {
            World c = new World();
            c.numbers = numbers.clone();
            for (int[] p : people) c.people.add(p.clone());
            for (Wrong w : wrongs) c.wrongs.add(w.copy());
            c.today = today;
            c.led = led.clone();
            return c;
        }
    }

    private World world = new World();
    private World image = null;
    private String text = null;
    private final StringBuilder tape = new StringBuilder();
    private final List<int[]> undos = new ArrayList<>();
    private final List<int[]> redos = new ArrayList<>();
    private final List<Door> bodies = new ArrayList<>();
    private final List<Integer> ran = new ArrayList<>();
    private final Object[] shelves = new Object[6];

    private static boolean in(int v, int least, int most) { return v >= least && v <= most; }
    private boolean isPerson(int p) { return in(p, 0, world.people.size() - 1); }
    private boolean isWrong(int w) { return in(w, 0, world.wrongs.size() - 1); }

    int person(int house) {
        if (!in(house, 0, 11)) return BAD;
        if (world.people.size() == 10) return FULL;
        world.people.add(new int[] {house, 6});
        return world.people.size() - 1;
    }

    private boolean isSo(int by, int to, int weight) { return isPerson(by) && isPerson(to) && by != to && in(weight, 1, 9); }

    int wrong(int bt, int weight) {
        if (!in(bt, 0, 99) || !isSo(bt / 10, bt % 10, weight)) return BAD;
        if (world.wrongs.size() == 12) return FULL;
        Wrong w = new Wrong();
        w.by = bt / 10; w.to = bt % 10; w.weight = weight; w.day = world.today;
        world.wrongs.add(w);
        return world.wrongs.size() - 1;
    }

    int wrongs(int shelf, int i, int n) {
        if (!in(shelf, 0, 5) || !in(n, 1, 12)) return BAD;
        if (shelves[shelf] == null) return 0;
        if (!(shelves[shelf] instanceof byte[])) return -12;
        byte[] row = (byte[]) shelves[shelf];
        for (int k = 0; k < n; k++) {
            long at = i + 3L * k;
            if (at < 0 || at + 2 >= row.length) return k;
            int by = row[(int) at], to = row[(int) at + 1], weight = row[(int) at + 2];
            if (!isSo(by, to, weight) || wrong(by * 10 + to, weight) < 0) return k;
        }
        return n;
    }

    private boolean there(int number, int what) {
        if (what == 0) return in(number, 0, 11);
        if (what == 1 || what == 2) return isPerson(number);
        if (what == 6) return number == 0;
        return isWrong(number);
    }

    private static boolean allowed(int what, int v) {
        switch (what) {
            case 0: return in(v, 0, 999);
            case 1: return in(v, 0, 11);
            case 2: return in(v, 0, 12);
            case 3: return in(v, 1, 9);
            case 5: return in(v, 0, 1);
            default: return in(v, 0, 99);
        }
    }

    private void set(int number, int what, int v) {
        switch (what) {
            case 0: world.numbers[number] = v; break;
            case 1: world.people.get(number)[0] = v; break;
            case 2: world.people.get(number)[1] = v; break;
            case 3: world.wrongs.get(number).weight = v; break;
            case 4: world.wrongs.get(number).day = v; break;
            case 5: world.wrongs.get(number).forgiven = v == 1; break;
            default: world.today = v;
        }
    }

    int mend(int number, int what, int v) {
        if (!in(what, 0, 6) || !there(number, what) || !allowed(what, v)) return VOID;
        int was = of(number, what);
        if (was == v) return was;
        set(number, what, v);
        undos.add(new int[] {number, what, was, v});
        if (undos.size() > 40) undos.remove(0);
        redos.clear();
        return was;
    }

    int of(int number, int what) {
        if (!in(what, 0, 8) || !there(number, what)) return VOID;
        switch (what) {
            case 0: return world.numbers[number];
            case 1: return world.people.get(number)[0];
            case 2: return world.people.get(number)[1];
            case 3: return world.wrongs.get(number).weight;
            case 4: return world.wrongs.get(number).day;
            case 5: return world.wrongs.get(number).forgiven ? 1 : 0;
            case 6: return world.today;
            case 7: return world.wrongs.get(number).by;
            default: return world.wrongs.get(number).to;
        }
    }

    int feed(int letter) {
        if (!in(letter, 0, 255)) return BAD;
        if (tape.length() == 120) return FULL;
        tape.append((char) letter);
        return tape.length();
    }

    int law() {
        String t = tape.toString();
        tape.setLength(0);
        int fault = fault(t);
        if (fault >= 0) return -100 - fault;
        text = t;
        return 1;
    }

    /** By states, not by rules: -1, or the FAULT. */
    static int fault(String t) {
        // what is open: '(' with whether a comparison stood since, '!' and '-' ahead of an operand
        List<Character> open = new ArrayList<>();
        List<Boolean> compared = new ArrayList<>();
        compared.add(false);
        boolean wantsOperand = true, asked = false;
        int digits = 0;
        for (int i = 0; i < t.length(); i++) {
            char c = t.charAt(i);
            if (wantsOperand) {
                if (c == '(' || c == '!' || c == '-') {
                    if (open.size() == 6) return i;
                    open.add(c);
                    if (c == '(') compared.add(false);
                    continue;
                }
                boolean digit = c >= '0' && c <= '9';
                if (!digit && "wahsno".indexOf(c) < 0) return i;
                digits = digit ? 1 : 0;
                wantsOperand = false;
                closeSigns(open);
                continue;
            }
            if (c >= '0' && c <= '9' && digits > 0 && digits < 4) { digits++; continue; }
            digits = 0;
            int last = compared.size() - 1;
            if (c == ')') {
                if (open.isEmpty()) return i;
                open.remove(open.size() - 1);
                compared.remove(last);
                closeSigns(open);
            } else if ("+-*/%".indexOf(c) >= 0) {
                wantsOperand = true;
            } else if ("|&".indexOf(c) >= 0) {
                compared.set(last, false);
                wantsOperand = true;
            } else if ("<=>".indexOf(c) >= 0) {
                if (compared.get(last)) return i;
                compared.set(last, true);
                wantsOperand = true;
            } else if (c == '?' || c == ';') {
                if (!open.isEmpty() || c == '?' && asked) return i;
                asked = c == '?';
                compared.set(last, false);
                wantsOperand = true;
            } else {
                return i;
            }
        }
        return wantsOperand || !open.isEmpty() ? t.length() : -1;
    }

    private static void closeSigns(List<Character> open) {
        while (!open.isEmpty() && open.get(open.size() - 1) != '(') open.remove(open.size() - 1);
    }

    /** Cuts a text at its last sign of the weakest kind outside brackets, and works out both sides. */
    static int value(String e, int[] names) {
        String[] ranks = {"|", "&", "<=>", "+-", "*/%"};
        for (String rank : ranks) {
            int depth = 0;
            for (int i = e.length() - 1; i > 0; i--) {
                char c = e.charAt(i);
                if (c == ')') depth++;
                if (c == '(') depth--;
                boolean behindOperand = Character.isLetterOrDigit(e.charAt(i - 1)) || e.charAt(i - 1) == ')';
                if (depth == 0 && rank.indexOf(c) >= 0 && behindOperand) {
                    return join(value(e.substring(0, i), names), c, value(e.substring(i + 1), names));
                }
            }
        }
        char c = e.charAt(0);
        if (c == '!') return value(e.substring(1), names) == 0 ? 1 : 0;
        if (c == '-') return -value(e.substring(1), names);
        if (c == '(') return value(e.substring(1, e.length() - 1), names);
        return "wahsno".indexOf(c) >= 0 ? names["wahsno".indexOf(c)] : Integer.parseInt(e);
    }

    private static int join(int a, char c, int b) {
        switch (c) {
            case '|': return a != 0 | b != 0 ? 1 : 0;
            case '&': return a != 0 & b != 0 ? 1 : 0;
            case '<': return a < b ? 1 : 0;
            case '=': return a == b ? 1 : 0;
            case '>': return a > b ? 1 : 0;
            case '+': return a + b;
            case '-': return a - b;
            case '*': return a * b;
            case '/': return b == 0 ? 0 : a / b;
            default: return b == 0 ? 0 : a % b;
        }
    }

    private int worth(World x, int wrong, int house) {
        Wrong w = x.wrongs.get(wrong);
        int s = 0;
        for (int p = 0; p < x.people.size(); p++) if (p != w.by && p != w.to && x.people.get(p)[0] == house) s++;
        int[] to = x.people.get(w.to);
        int[] names = {w.weight, Math.max(0, x.today - w.day), to[1], s, x.numbers[house], to[0] == house ? 1 : 0};
        int v = 0;
        if (text == null) {
            v = 1 + names[0] / 3 + names[5] - names[1] / 20;
        } else {
            for (String line : text.split(";")) {
                String[] parts = line.split("\\?");
                if (parts.length == 1) { v = value(parts[0], names); break; }
                if (value(parts[0], names) != 0) { v = value(parts[1], names); break; }
            }
        }
        return Math.min(9, Math.max(0, v));
    }

    private int callIn(World x, int wrong, int house) {
        Wrong w = x.wrongs.get(wrong);
        int v = w.forgiven ? 0 : worth(x, wrong, house);
        if (v == 0) return 0;
        w.forgiven = true;
        x.numbers[house] = Math.min(999, x.numbers[house] + v);
        return v;
    }

    int counts(int wrong, int house) {
        return isWrong(wrong) && in(house, 0, 11) ? worth(world, wrong, house) : BAD;
    }

    private int refusal(int shelf) {
        if (shelves[shelf] == null) return -11;
        return shelves[shelf] instanceof short[] ? 0 : -12;
    }

    private List<Integer> callsOf(int shelf) {
        List<Integer> calls = new ArrayList<>();
        for (short v : (short[]) shelves[shelf]) {
            if (v < 0 || v / 12 >= world.wrongs.size() || calls.size() == 40) break;
            calls.add((int) v);
        }
        return calls;
    }

    private World behind(int shelf, int n) {
        World x = world.copy();
        List<Integer> calls = callsOf(shelf);
        for (int i = 0; i < n && i < calls.size(); i++) callIn(x, calls.get(i) / 12, calls.get(i) % 12);
        return x;
    }

    int later(int shelf, int n, int house) {
        if (!in(shelf, 0, 5) || !in(n, 0, 40) || !in(house, 0, 11)) return BAD;
        return refusal(shelf) != 0 ? refusal(shelf) : behind(shelf, n).numbers[house];
    }

    private static int bits(World x) {
        int bits = 0;
        for (int w = 0; w < x.wrongs.size(); w++) if (x.wrongs.get(w).forgiven) bits |= 1 << w;
        return bits;
    }

    int street(int shelf, int n, int what) {
        if (!in(shelf, 0, 5) || !in(n, 0, 40) || !in(what, 0, 3)) return BAD;
        if (refusal(shelf) != 0) return refusal(shelf);
        World x = behind(shelf, n);
        if (what == 0) return bits(x);
        if (what == 1) return Arrays.stream(x.numbers).sum();
        if (what == 2) {
            for (int i = 0; i < Math.min(n, callsOf(shelf).size()); i++) if (bits(behind(shelf, i)) == bits(behind(shelf, i + 1))) return i;
            return NOT;
        }
        for (int c = 0; c < 144; c++) if (c / 12 < c % 12 && x.numbers[c / 12] > 0 && x.numbers[c / 12] == x.numbers[c % 12]) return c;
        return NOT;
    }

    int run(int what) {
        if (!in(what, 0, 1)) return BAD;
        int best = 0;
        for (int mask = 1; mask < 4096; mask++) if (rises(mask) && Integer.bitCount(mask) > Integer.bitCount(best)) best = mask;
        return what == 0 ? Integer.bitCount(best) : best;
    }

    private boolean rises(int mask) {
        int last = -1;
        for (int h = 0; h < 12; h++) {
            if ((mask >> h & 1) == 0) continue;
            if (world.numbers[h] <= last) return false;
            last = world.numbers[h];
        }
        return true;
    }

    private static boolean inOrder(World x) {
        for (int h = 1; h < 12; h++) if (x.numbers[h] < x.numbers[h - 1]) return false;
        return true;
    }

    int fewest(int k) {
        if (k < -1) return BAD;
        int[] calls = fewestCalls();
        if (calls == null) return NOT;
        if (k == -1) return calls.length;
        return k < calls.length ? calls[k] : NOT;
    }

    private int[] fewestCalls() {
        if (inOrder(world)) return new int[0];
        int most = world.wrongs.size() * 12;
        World[] firsts = new World[most];
        for (int a = 0; a < most; a++) {
            firsts[a] = world.copy();
            callIn(firsts[a], a / 12, a % 12);
            if (inOrder(firsts[a])) return new int[] {a};
        }
        for (int a = 0; a < most; a++) {
            for (int b = 0; b < most; b++) {
                Wrong w = firsts[a].wrongs.get(b / 12);
                int was = firsts[a].numbers[b % 12];
                if (callIn(firsts[a], b / 12, b % 12) == 0) continue;
                if (inOrder(firsts[a])) return new int[] {a, b};
                w.forgiven = false;
                firsts[a].numbers[b % 12] = was;
            }
        }
        return null;
    }

    int all(int house) {
        if (!in(house, 0, 11)) return BAD;
        World x = world.copy();
        for (int w = 0; w < x.wrongs.size(); w++) callIn(x, w, house);
        return x.numbers[house];
    }

    int evening(int what) {
        if (!in(what, 0, 1)) return BAD;
        int n = world.wrongs.size(), best = 0, bestMask = 0;
        int[] worths = new int[n];
        for (int w = 0; w < n; w++) worths[w] = worth(world, w, world.people.get(world.wrongs.get(w).to)[0]);
        for (int mask = 1; mask < 1 << n; mask++) {
            int sum = eveningSum(mask, worths);
            boolean fewer = Integer.bitCount(mask) < Integer.bitCount(bestMask);
            if (sum > best || sum == best && fewer) { best = sum; bestMask = mask; }
        }
        return what == 0 ? best : bestMask;
    }

    private int eveningSum(int mask, int[] worths) {
        boolean[] doers = new boolean[10], homes = new boolean[12];
        int sum = 0;
        for (int w = 0; w < worths.length; w++) {
            if ((mask >> w & 1) == 0) continue;
            Wrong x = world.wrongs.get(w);
            int home = world.people.get(x.to)[0];
            if (x.forgiven || doers[x.by] || homes[home]) return -1;
            doers[x.by] = true;
            homes[home] = true;
            sum += worths[w];
        }
        return sum;
    }

    int ring() {
        int best = 99;
        for (int w = 0; w < world.wrongs.size(); w++) best = Math.min(best, ringFrom(w, w, 1, 1 << w));
        return best == 99 ? NOT : best;
    }

    private int ringFrom(int start, int at, int many, int used) {
        Wrong x = world.wrongs.get(at);
        if (x.forgiven) return 99;
        if (x.to == world.wrongs.get(start).by) return many;
        int best = 99;
        for (int w = 0; w < world.wrongs.size(); w++) {
            if ((used >> w & 1) == 0 && world.wrongs.get(w).by == x.to) best = Math.min(best, ringFrom(start, w, many + 1, used | 1 << w));
        }
        return best;
    }

    int owes(int one) {
        if (!isPerson(one)) return VOID;
        int v = 0;
        for (Wrong w : world.wrongs) if (!w.forgiven) v += (w.by == one ? 1 : 0) - (w.to == one ? 1 : 0);
        return v;
    }

    int post(int house, int v) {
        if (!in(house, 0, 11) || !in(v, 0, 999)) return BAD;
        int at = house, steps = 0;
        while (world.numbers[at] != v) {
            at = at == 11 ? 0 : at + 1;
            if (++steps == 12) return NOT;
        }
        return steps;
    }

    private int near(int v, boolean[] gone) {
        for (int far = 0; far < 2000; far++) {
            for (int h = 0; h < 12; h++) if (!gone[h] && Math.abs(world.numbers[h] - v) == far) return h;
        }
        throw new IllegalStateException();
    }

    int nearest(int v) { return in(v, 0, 999) ? near(v, new boolean[12]) : BAD; }

    int chosen(int one) {
        if (!isPerson(one)) return BAD;
        boolean[] gone = new boolean[12];
        int h = 0;
        for (int p = 0; p <= one; p++) {
            h = near(9 * world.people.get(p)[1], gone);
            gone[h] = true;
        }
        return h;
    }

    private boolean shelfPair(int ss) { return in(ss, 0, 55) && ss % 10 <= 5; }

    int judge(int ss, int house) {
        if (!shelfPair(ss) || !in(house, 0, 11)) return BAD;
        if (refusal(ss / 10) != 0) return refusal(ss / 10);
        if (refusal(ss % 10) != 0) return refusal(ss % 10);
        short[] painted = (short[]) shelves[ss % 10];
        int calls = callsOf(ss / 10).size();
        for (int i = 0; i < painted.length; i++) if (i > calls || behind(ss / 10, i).numbers[house] != painted[i]) return i;
        return NOT;
    }

    int fits(int ss, int house, int number, int what) {
        if (!shelfPair(ss) || !in(house, 0, 11) || !in(what, 0, 3)) return BAD;
        if (what < 2 ? !isPerson(number) : !isWrong(number)) return BAD;
        if (judge(ss, house) < -10) return judge(ss, house);
        World was = world;
        List<Integer> good = new ArrayList<>();
        for (int v = what < 2 ? 0 : 1; v <= (what < 2 ? 12 : 9); v++) {
            world = was.copy();
            set(number, what < 2 ? 2 : 3, v);
            if (judge(ss, house) == NOT) good.add(v);
        }
        world = was;
        if (what % 2 == 0) return good.size();
        return good.isEmpty() ? NOT : good.get(0);
    }

    int byTurns(int ab, int n, int what) {
        if (!in(ab, 0, 99) || !in(n, 1, 4) || !in(what, 0, 1)) return VOID;
        int a = ab / 10, b = ab % 10;
        if (!isPerson(a) || !isPerson(b) || a == b) return VOID;
        int[] best = play(world.copy(), a, b, n);
        return best[what];
    }

    /** What the mover reaches, and by what. */
    private int[] play(World x, int mover, int other, int left) {
        int mine = x.people.get(mover)[0], his = x.people.get(other)[0];
        if (left == 0) return new int[] {x.numbers[mine] - x.numbers[his], 12};
        int[] best = {-play(x, other, mover, left - 1)[0], 12};
        for (int w = 0; w < x.wrongs.size(); w++) {
            Wrong done = x.wrongs.get(w);
            if (done.to != mover || done.forgiven) continue;
            int was = x.numbers[mine];
            callIn(x, w, mine);
            int v = -play(x, other, mover, left - 1)[0];
            done.forgiven = false;
            x.numbers[mine] = was;
            if (v > best[0]) best = new int[] {v, w};
        }
        return best;
    }

    int drawn(int seed, int nm, int house) {
        if (!in(nm, 100, 3099) || !in(nm % 100, 1, 40) || !in(house, -1, 11)) return BAD;
        int z = seed, sum = 0;
        for (int y = 0; y < nm / 100; y++) {
            World x = world.copy();
            for (int d = 0; d < nm % 100; d++) {
                z = z * 1103515245 + 12345;
                if (!x.wrongs.isEmpty()) {
                    int w = (z >>> 8) % x.wrongs.size();
                    Wrong done = x.wrongs.get(w);
                    if (done.forgiven) { done.forgiven = false; done.day = x.today; } else callIn(x, w, (z >>> 16) % 12);
                }
                if (x.today < 99) x.today++;
            }
            sum += house == -1 ? Arrays.stream(x.numbers).sum() : x.numbers[house];
        }
        return sum;
    }

    int call(int wrong, int house) {
        if (!isWrong(wrong) || !in(house, 0, 11)) return BAD;
        int v = callIn(world, wrong, house);
        world.led[v == 0 ? 1 : 0]++;
        world.led[2] += v;
        return v;
    }

    int again(int wrong) {
        if (!isWrong(wrong)) return BAD;
        Wrong w = world.wrongs.get(wrong);
        if (!w.forgiven) return STATE;
        int was = w.day;
        w.forgiven = false;
        w.day = world.today;
        world.led[3]++;
        return was;
    }

    int days(int n) {
        if (!in(n, 1, 99)) return BAD;
        world.led[4] += n;
        return world.today = Math.min(99, world.today + n);
    }

    int slam(int house) {
        if (!in(house, 0, 11)) return BAD;
        world.led[5]++;
        if (world.numbers[house] > 0) world.numbers[house]--;
        return world.numbers[house];
    }

    int led(int what) { return in(what, 0, 5) ? world.led[what] : BAD; }

    int image() {
        image = world.copy();
        return world.led[0];
    }

    int back() {
        if (image == null) return STATE;
        World old = image.copy();
        world.numbers = old.numbers;
        world.today = old.today;
        world.led = old.led;
        for (int w = 0; w < old.wrongs.size(); w++) {
            world.wrongs.get(w).forgiven = old.wrongs.get(w).forgiven;
            world.wrongs.get(w).day = old.wrongs.get(w).day;
        }
        return world.led[0];
    }

    int undo() {
        if (undos.isEmpty()) return STATE;
        int[] c = undos.remove(undos.size() - 1);
        redos.add(c);
        set(c[0], c[1], c[2]);
        return undos.size();
    }

    int redo() {
        if (redos.isEmpty()) return STATE;
        int[] c = redos.remove(redos.size() - 1);
        undos.add(c);
        set(c[0], c[1], c[3]);
        return redos.size();
    }

    // ---- DOORS as Java has them

    private static void ran(Door d, int body) { d.ran.add(body); }

    interface Opens {
        Door self();
        default int opens(int x) { ran(self(), 1); return x + self().n; }
    }

    interface Tells {
        Door self();
        int counts(int x);
        int slams(int x);
        default int tells(int x) { ran(self(), 2); return counts(x) - slams(1); }
    }

    static class Door implements Opens, Tells {
        int n, kind;
        List<Integer> ran;
        public Door self() { return this; }
        public int counts(int x) { Model.ran(this, 10); return opens(x) * 2; }
        public int slams(int x) { Model.ran(this, 11); return x ^ n; }
    }
    static class Tea extends Door {
        public int opens(int x) { Model.ran(this, 20); return super.opens(x) + 3; }
    }
    static class Hall extends Door {
        public int counts(int x) { Model.ran(this, 30); return -super.counts(x); }
    }
    static class Stair extends Hall {
        public int slams(int x) { Model.ran(this, 40); return super.slams(x) * 3; }
        public int counts(int x) { Model.ran(this, 41); return super.counts(x + 1); }
    }
    static class Agent extends Tea {
        public int slams(int x) { Model.ran(this, 50); return super.slams(x) - opens(2); }
    }
    static class Lodger extends Stair {
        public int tells(int x) { Model.ran(this, 60); return super.tells(x) ^ 5; }
    }
    static class Tin extends Door {
        public int opens(int x) { Model.ran(this, 70); return super.opens(x) * 2; }
    }
    static class Girl extends Agent {
        public int counts(int x) { Model.ran(this, 80); return super.counts(x) + slams(2); }
        public int tells(int x) { Model.ran(this, 81); return super.tells(x) - 1; }
    }

    private static final List<Class<? extends Door>> KINDS =
        List.of(Door.class, Tea.class, Hall.class, Stair.class, Agent.class, Lodger.class, Tin.class, Girl.class);

    int body(int kind) {
        if (!in(kind, 0, 7)) return BAD;
        if (bodies.size() == 50) return FULL;
        Door[] fresh = {new Door(), new Tea(), new Hall(), new Stair(), new Agent(), new Lodger(), new Tin(), new Girl()};
        Door d = fresh[kind];
        d.n = bodies.size();
        d.kind = kind;
        d.ran = ran;
        bodies.add(d);
        return d.n;
    }

    int act(int body, int act, int x) {
        ran.clear();
        if (!in(body, 0, bodies.size() - 1)) return 0;
        Door d = bodies.get(body);
        switch (act) {
            case 0: return d.opens(x);
            case 1: return d.counts(x);
            case 2: return d.slams(x);
            case 3: return d.tells(x);
            default: return 0;
        }
    }

    int trace(int i) { return in(i, 0, Math.min(24, ran.size()) - 1) ? ran.get(i) : BAD; }

    // ---- SHELVES as Java has them

    int keep(int shelf, int body) {
        if (!in(shelf, 0, 5) || !in(body, -1, bodies.size() - 1)) return BAD;
        shelves[shelf] = body == -1 ? null : bodies.get(body);
        return 1;
    }

    int row(int shelf, int sort, int n) {
        if (!in(shelf, 0, 5) || !in(sort, 0, 4) || n > 60) return BAD;
        if (n < 0) return -14;
        Class<?>[] sorts = {byte.class, short.class, int.class, long.class, boolean.class};
        shelves[shelf] = java.lang.reflect.Array.newInstance(sorts[sort], n);
        return 1;
    }

    private int place(int shelf, int i) {
        if (!in(shelf, 0, 5)) return BAD;
        if (shelves[shelf] == null) return -11;
        if (!shelves[shelf].getClass().isArray()) return -12;
        return in(i, 0, java.lang.reflect.Array.getLength(shelves[shelf]) - 1) ? 1 : -13;
    }

    int put(int shelf, int i, long v) {
        if (place(shelf, i) != 1) return place(shelf, i);
        Object row = shelves[shelf];
        if (row instanceof byte[]) ((byte[]) row)[i] = (byte) v;
        else if (row instanceof short[]) ((short[]) row)[i] = (short) v;
        else if (row instanceof int[]) ((int[]) row)[i] = (int) v;
        else if (row instanceof long[]) ((long[]) row)[i] = v;
        else ((boolean[]) row)[i] = v != 0;
        return 1;
    }

    long element(int shelf, int i) {
        if (place(shelf, i) != 1) return Long.MIN_VALUE;
        Object row = shelves[shelf];
        return row instanceof boolean[] ? ((boolean[]) row)[i] ? 1 : 0 : java.lang.reflect.Array.getLong(row, i);
    }

    int shift(int shelf, int i, int other, int j, int n) {
        if (!in(shelf, 0, 5) || !in(other, 0, 5)) return BAD;
        if (shelves[shelf] == null || shelves[other] == null) return -11;
        try {
            System.arraycopy(shelves[shelf], i, shelves[other], j, n);
            return n;
        } catch (ArrayStoreException e) {
            return -12;
        } catch (IndexOutOfBoundsException e) {
            return -13;
        }
    }

    int taken(int shelf, int k) {
        if (!in(shelf, 0, 5) || !in(k, 0, 7)) return BAD;
        if (shelves[shelf] == null) return -11;
        return KINDS.get(k).isInstance(shelves[shelf]) ? ((Door) shelves[shelf]).kind : -12;
    }

    int count(int what) {
        switch (what) {
            case 0: return world.people.size();
            case 1: return world.wrongs.size();
            case 2: return tape.length();
            case 3: return undos.size();
            case 4: return bodies.size();
            case 5: return ran.size();
            default: return BAD;
        }
    }
}
