import java.util.Arrays;

/** A street whose houses are numbered by how much has been forgiven in them. */
public final class ForgivenStreet {
    public static final int BAD = -1, NOT = -2, FULL = -3, STATE = -5, VOID = -2000000000;

    private static final int NOTHING_THERE = -11, OTHER_KIND = -12, NO_PLACE = -13, NO_SIZE = -14;
    private static final int HOUSES = 12, MOST_PEOPLE = 10, MOST_WRONGS = 12, MOST_CALLS = 40;
    private static final int MOST_NUMBER = 999, LAST_DAY = 99, FIRST_HEART = 6, MOST_HEART = 12, MOST_WEIGHT = 9;
    private static final int BYTES = 0, SHORTS = 1;

    /** What mend() takes, by its 'what': 0 NUMBER .. 6 TODAY. */
    private static final int[] LEAST = {0, 0, 0, 1, 0, 0, 0};
    private static final int[] MOST = {999, 11, 12, 9, 99, 1, 99};

    private final Folk folk = new Folk();
    private final Law laws = new Law();
    private final Scene now = new Scene();
    private final Scene thought = new Scene();
    private final Scene kept = new Scene();
    private boolean imaged = false;
    private int imagedWrongs = 0;
    private final Changes changes = new Changes();
    private final Shelves shelves = new Shelves();
    private final Doors doors = new Doors();
    private final Evening eve = new Evening();
    /** What the latest search found: FEWEST's calls, or as playAlone() says. */
    private final int[] found = new int[2];
    private final int[] lengths = new int[HOUSES];
    private final int[] masks = new int[HOUSES];
    private final int[] nexts = new int[MOST_PEOPLE];

    public ForgivenStreet() {
    }

    // ---- people, wrongs

    public int person(int house) {
        if (!isHouse(house)) return BAD;
        if (folk.people == MOST_PEOPLE) return FULL;
        return folk.settle(house);
    }

    public int wrong(int bt, int weight) {
        if (bt < 0 || !folk.isSo(bt / 10, bt % 10, weight)) return BAD;
        if (folk.wrongs == MOST_WRONGS) return FULL;
        return addWrong(bt / 10, bt % 10, weight);
    }

    public int wrongs(int shelf, int i, int n) {
        if (!shelves.isShelf(shelf) || n < 1 || n > MOST_WRONGS) return BAD;
        if (shelves.isEmpty(shelf)) return 0;
        if (!shelves.isRowOf(shelf, BYTES)) return OTHER_KIND;
        int came = 0;
        int at = i;
        for (int k = 0; k < n; k++) {
            // no place is BAD: where the row has nothing, it ends
            if (!shelves.hasPart(shelf, at, 3) || folk.wrongs == MOST_WRONGS) return came;
            int by = (int) shelves.valueAt(shelf, at);
            int to = (int) shelves.valueAt(shelf, at + 1);
            int weight = (int) shelves.valueAt(shelf, at + 2);
            if (!folk.isSo(by, to, weight)) return came;
            addWrong(by, to, weight);
            came++;
            at += 3;
        }
        return came;
    }

    public int mend(int number, int what, int v) {
        if (what < 0 || what > 6 || !isThere(number, what)) return VOID;
        if (v < LEAST[what] || v > MOST[what]) return VOID;
        int was = valueOf(number, what);
        if (was != v) {
            setValue(number, what, v);
            changes.note(number, what, was, v);
        }
        return was;
    }

    public int of(int number, int what) {
        if (!isThere(number, what)) return VOID;
        return valueOf(number, what);
    }

    public int feed(int letter) {
        if (letter < 0 || letter > 255) return BAD;
        return laws.take(letter);
    }

    public int law() {
        return laws.enact();
    }

    public int counts(int wrong, int house) {
        if (!folk.isWrong(wrong) || !isHouse(house)) return BAD;
        return worth(now, wrong, house);
    }

    // ---- calls in thought

    public int later(int shelf, int n, int house) {
        if (!shelves.isShelf(shelf) || !isCalls(n) || !isHouse(house)) return BAD;
        int refusal = shelves.refusal(shelf, SHORTS);
        if (refusal != 0) return refusal;
        think(shelf, n);
        return thought.numbers[house];
    }

    public int street(int shelf, int n, int what) {
        if (!shelves.isShelf(shelf) || !isCalls(n) || what < 0 || what > 3) return BAD;
        int refusal = shelves.refusal(shelf, SHORTS);
        if (refusal != 0) return refusal;
        int idle = think(shelf, n);
        switch (what) {
            case 0: return thought.forgiven;
            case 1: return thought.total();
            case 2: return idle;
            default: return thought.alike();
        }
    }

    public int run(int what) {
        if (what < 0 || what > 1) return BAD;
        int best = longestRise();
        return what == 0 ? lengths[best] : masks[best];
    }

    public int fewest(int k) {
        if (k < -1) return BAD;
        int many = searchFewest();
        if (many == NOT || k == -1) return many;
        return k < many && k < found.length ? found[k] : NOT;
    }

    public int all(int house) {
        if (!isHouse(house)) return BAD;
        thought.become(now);
        for (int w = 0; w < folk.wrongs; w++) forgive(thought, w, house);
        return thought.numbers[house];
    }

    public int evening(int what) {
        if (what < 0 || what > 1) return BAD;
        eve.clear();
        for (int w = 0; w < folk.wrongs; w++) {
            if (now.isForgiven(w)) continue;
            int home = folk.houses[folk.to[w]];
            eve.offer(w, folk.by[w], home, worth(now, w, home));
        }
        eve.search();
        return what == 0 ? eve.bestSum : eve.bestBits;
    }

    public int ring() {
        Arrays.fill(nexts, 0);
        for (int w = 0; w < folk.wrongs; w++) {
            if (!now.isForgiven(w)) nexts[folk.by[w]] |= 1 << folk.to[w];
        }
        int least = MOST_PEOPLE + 1;
        for (int p = 0; p < folk.people; p++) {
            int steps = stepsHome(p);
            if (steps != NOT && steps < least) least = steps;
        }
        return least > MOST_PEOPLE ? NOT : least;
    }

    public int owes(int one) {
        if (!folk.isOne(one)) return VOID;
        int sum = 0;
        for (int w = 0; w < folk.wrongs; w++) {
            if (now.isForgiven(w)) continue;
            if (folk.by[w] == one) sum++;
            if (folk.to[w] == one) sum--;
        }
        return sum;
    }

    // ---- post, choosing, painting

    public int post(int house, int v) {
        if (!isHouse(house) || v < 0 || v > MOST_NUMBER) return BAD;
        for (int steps = 0; steps < HOUSES; steps++) {
            if (now.numbers[(house + steps) % HOUSES] == v) return steps;
        }
        return NOT;
    }

    public int nearest(int v) {
        if (v < 0 || v > MOST_NUMBER) return BAD;
        return nearestFree(v, 0);
    }

    public int chosen(int one) {
        if (!folk.isOne(one)) return BAD;
        int gone = 0;
        int house = 0;
        for (int p = 0; p <= one; p++) {
            house = nearestFree(9 * folk.hearts[p], gone);
            gone |= 1 << house;
        }
        return house;
    }

    public int judge(int ss, int house) {
        if (!areShelves(ss) || !isHouse(house)) return BAD;
        int refusal = paintedRefusal(ss);
        if (refusal != 0) return refusal;
        return firstUnlike(ss / 10, ss % 10, house);
    }

    public int fits(int ss, int house, int number, int what) {
        if (!areShelves(ss) || !isHouse(house) || what < 0 || what > 3) return BAD;
        boolean byHeart = what < 2;
        if (byHeart ? !folk.isOne(number) : !folk.isWrong(number)) return BAD;
        int refusal = paintedRefusal(ss);
        if (refusal != 0) return refusal;
        int[] told = byHeart ? folk.hearts : folk.weights;
        int was = told[number];
        int many = 0;
        int least = NOT;
        int most = byHeart ? MOST_HEART : MOST_WEIGHT;
        for (int v = byHeart ? 0 : 1; v <= most; v++) {
            told[number] = v;
            if (firstUnlike(ss / 10, ss % 10, house) != NOT) continue;
            if (many == 0) least = v;
            many++;
        }
        told[number] = was;
        return what % 2 == 0 ? many : least;
    }

    public int byTurns(int ab, int n, int what) {
        if (ab < 0 || n < 1 || n > 4 || what < 0 || what > 1) return VOID;
        int one = ab / 10;
        int other = ab % 10;
        if (!folk.isOne(one) || !folk.isOne(other) || one == other) return VOID;
        if (folk.houses[one] == folk.houses[other]) return what == 0 ? 0 : MOST_WRONGS;
        // no law looks at another HOUSE, so each does best by raising his own alone
        thought.become(now);
        playAlone(one, (n + 1) / 2);
        if (what == 1) return found[1];
        int mine = found[0];
        playAlone(other, n / 2);
        return mine - found[0];
    }

    public int drawn(int seed, int nm, int house) {
        if (nm < 0 || house < -1 || house >= HOUSES) return BAD;
        int years = nm / 100;
        int length = nm % 100;
        if (years < 1 || years > 30 || length < 1 || length > 40) return BAD;
        int z = seed;
        int sum = 0;
        for (int y = 0; y < years; y++) {
            // each year is another one from now; the draws go on
            thought.become(now);
            for (int d = 0; d < length; d++) {
                z = z * 1103515245 + 12345;
                liveDay(z);
            }
            sum += house == -1 ? thought.total() : thought.numbers[house];
        }
        return sum;
    }

    // ---- in deed

    public int call(int wrong, int house) {
        if (!folk.isWrong(wrong) || !isHouse(house)) return BAD;
        int much = forgive(now, wrong, house);
        if (much == 0) {
            now.led[1]++;
        } else {
            now.led[0]++;
            now.led[2] += much;
        }
        return much;
    }

    public int again(int wrong) {
        if (!folk.isWrong(wrong)) return BAD;
        if (!now.isForgiven(wrong)) return STATE;
        int was = now.days[wrong];
        now.doAgain(wrong);
        now.led[3]++;
        return was;
    }

    public int days(int n) {
        if (n < 1 || n > 99) return BAD;
        now.pass(n);
        now.led[4] += n;
        return now.today;
    }

    public int slam(int house) {
        if (!isHouse(house)) return BAD;
        now.numbers[house] = Math.max(0, now.numbers[house] - 1);
        now.led[5]++;
        return now.numbers[house];
    }

    public int led(int what) {
        if (what < 0 || what >= now.led.length) return BAD;
        return now.led[what];
    }

    public int image() {
        kept.become(now);
        imaged = true;
        imagedWrongs = folk.wrongs;
        return now.led[0];
    }

    public int back() {
        if (!imaged) return STATE;
        now.becomeUpTo(kept, imagedWrongs);
        return now.led[0];
    }

    public int undo() {
        if (!changes.toUndo()) return STATE;
        int k = changes.stepBack();
        setValue(changes.numbers[k], changes.whats[k], changes.olds[k]);
        return changes.done;
    }

    public int redo() {
        if (!changes.toRedo()) return STATE;
        int k = changes.stepOn();
        setValue(changes.numbers[k], changes.whats[k], changes.news[k]);
        return changes.held - changes.done;
    }

    // ---- acts, shelves

    public int body(int kind) {
        if (!doors.isKind(kind)) return BAD;
        return doors.add(kind);
    }

    public int act(int body, int act, int x) {
        return doors.perform(body, act, x);
    }

    public int trace(int i) {
        return doors.ranAs(i);
    }

    public int keep(int shelf, int body) {
        if (!shelves.isShelf(shelf)) return BAD;
        if (body == -1) {
            shelves.setEmpty(shelf);
            return 1;
        }
        if (!doors.isBody(body)) return BAD;
        shelves.setDoor(shelf, body);
        return 1;
    }

    public int row(int shelf, int sort, int n) {
        if (!shelves.isShelf(shelf) || !shelves.isSort(sort) || n > Shelves.LONGEST) return BAD;
        if (n < 0) return NO_SIZE;
        shelves.setRow(shelf, sort, n);
        return 1;
    }

    public int put(int shelf, int i, long v) {
        int refusal = placeRefusal(shelf, i);
        if (refusal != 0) return refusal;
        shelves.store(shelf, i, v);
        return 1;
    }

    public long element(int shelf, int i) {
        if (placeRefusal(shelf, i) != 0) return 0x8000000000000000L;
        return shelves.valueAt(shelf, i);
    }

    public int shift(int shelf, int i, int other, int j, int n) {
        if (!shelves.isShelf(shelf) || !shelves.isShelf(other)) return BAD;
        if (shelves.isEmpty(shelf) || shelves.isEmpty(other)) return NOTHING_THERE;
        if (!shelves.areAlike(shelf, other)) return OTHER_KIND;
        if (!shelves.hasPart(shelf, i, n) || !shelves.hasPart(other, j, n)) return NO_PLACE;
        shelves.copyPart(shelf, i, other, j, n);
        return n;
    }

    public int taken(int shelf, int k) {
        if (!shelves.isShelf(shelf) || !doors.isKind(k)) return BAD;
        if (shelves.isEmpty(shelf)) return NOTHING_THERE;
        if (!shelves.isDoor(shelf)) return OTHER_KIND;
        int kind = doors.kindOf(shelves.doorOn(shelf));
        return doors.isUnder(kind, k) ? kind : OTHER_KIND;
    }

    public int count(int what) {
        switch (what) {
            case 0: return folk.people;
            case 1: return folk.wrongs;
            case 2: return laws.fed;
            case 3: return changes.done;
            case 4: return doors.bodies;
            case 5: return doors.ran;
            default: return BAD;
        }
    }

    // ---- what arguments may be

    private static boolean isHouse(int house) {
        return house >= 0 && house < HOUSES;
    }

    private static boolean isCalls(int n) {
        return n >= 0 && n <= MOST_CALLS;
    }

    private boolean areShelves(int ss) {
        return ss >= 0 && shelves.isShelf(ss / 10) && shelves.isShelf(ss % 10);
    }

    /** CALLS are looked at wholly before what is painted. */
    private int paintedRefusal(int ss) {
        int refusal = shelves.refusal(ss / 10, SHORTS);
        return refusal != 0 ? refusal : shelves.refusal(ss % 10, SHORTS);
    }

    private int placeRefusal(int shelf, int i) {
        if (!shelves.isShelf(shelf)) return BAD;
        if (shelves.isEmpty(shelf)) return NOTHING_THERE;
        if (shelves.isDoor(shelf)) return OTHER_KIND;
        return shelves.hasPart(shelf, i, 1) ? 0 : NO_PLACE;
    }

    // ---- numbers that can be told and mended

    private boolean isThere(int number, int what) {
        switch (what) {
            case 0: return isHouse(number);
            case 1:
            case 2: return folk.isOne(number);
            case 6: return number == 0;
            case 3:
            case 4:
            case 5:
            case 7:
            case 8: return folk.isWrong(number);
            default: return false;
        }
    }

    private int valueOf(int number, int what) {
        switch (what) {
            case 0: return now.numbers[number];
            case 1: return folk.houses[number];
            case 2: return folk.hearts[number];
            case 3: return folk.weights[number];
            case 4: return now.days[number];
            case 5: return now.isForgiven(number) ? 1 : 0;
            case 6: return now.today;
            case 7: return folk.by[number];
            default: return folk.to[number];
        }
    }

    private void setValue(int number, int what, int v) {
        switch (what) {
            case 0: now.numbers[number] = v; break;
            case 1: folk.houses[number] = v; break;
            case 2: folk.hearts[number] = v; break;
            case 3: folk.weights[number] = v; break;
            case 4: now.days[number] = v; break;
            case 5: now.setForgiven(number, v != 0); break;
            default: now.today = v; break;
        }
    }

    // ---- forgiving

    private int addWrong(int by, int to, int weight) {
        int w = folk.offend(by, to, weight);
        now.days[w] = now.today;
        return w;
    }

    private int worth(Scene scene, int w, int house) {
        int to = folk.to[w];
        int ago = Math.max(0, scene.today - scene.days[w]);
        int own = folk.houses[to] == house ? 1 : 0;
        laws.tell(folk.weights[w], ago, folk.hearts[to], folk.seers(w, house), scene.numbers[house], own);
        return laws.worth();
    }

    /** A CALL in a scene: how much it counted. */
    private int forgive(Scene scene, int w, int house) {
        if (scene.isForgiven(w)) return 0;
        int much = worth(scene, w, house);
        if (much == 0) return 0;
        scene.setForgiven(w, true);
        scene.numbers[house] = Math.min(MOST_NUMBER, scene.numbers[house] + much);
        return much;
    }

    /** How many CALLS a ROW of shorts tells. */
    private int callsOn(int shelf) {
        int most = Math.min(MOST_CALLS, shelves.size(shelf));
        for (int i = 0; i < most; i++) {
            int v = (int) shelves.valueAt(shelf, i);
            if (v < 0 || v / HOUSES >= folk.wrongs) return i;
        }
        return most;
    }

    private int callOf(int shelf, int i) {
        int v = (int) shelves.valueAt(shelf, i);
        return forgive(thought, v / HOUSES, v % HOUSES);
    }

    /** The first n CALLS in thought: the first that counts for nothing, or NOT. */
    private int think(int shelf, int n) {
        thought.become(now);
        int many = Math.min(n, callsOn(shelf));
        int idle = NOT;
        for (int i = 0; i < many; i++) {
            int much = callOf(shelf, i);
            if (much == 0 && idle == NOT) idle = i;
        }
        return idle;
    }

    private int firstUnlike(int calls, int painted, int house) {
        thought.become(now);
        int many = callsOn(calls);
        int size = shelves.size(painted);
        for (int i = 0; i < size; i++) {
            if (i > many) return i;
            if (i > 0) callOf(calls, i - 1);
            if (shelves.valueAt(painted, i) != thought.numbers[house]) return i;
        }
        return NOT;
    }

    // ---- searching

    /** Fills lengths and masks by the HOUSE that a rise ends with; answers that of the longest, least one. */
    private int longestRise() {
        int best = 0;
        for (int i = 0; i < HOUSES; i++) {
            lengths[i] = 1;
            masks[i] = 1 << i;
            // of like long ones that with the earlier end has the lesser mask: it stays
            for (int j = 0; j < i; j++) {
                if (now.numbers[j] < now.numbers[i] && lengths[j] + 1 > lengths[i]) {
                    lengths[i] = lengths[j] + 1;
                    masks[i] = masks[j] | 1 << i;
                }
            }
            if (lengths[i] > lengths[best]) best = i;
        }
        return best;
    }

    private int searchFewest() {
        thought.become(now);
        int first = thought.firstBreak();
        if (first == NOT) return 0;
        // NUMBERS only rise, so a call mends no break but that of its own HOUSE
        if (first == thought.lastBreak() && mendsIn(first, 0)) return 1;
        for (int c = 0; c < folk.wrongs * HOUSES; c++) {
            int w = c / HOUSES;
            int house = c % HOUSES;
            int was = thought.numbers[house];
            if (forgive(thought, w, house) == 0) continue;
            int rest = thought.firstBreak();
            boolean mended = rest != NOT && rest == thought.lastBreak() && mendsIn(rest, 1);
            thought.numbers[house] = was;
            thought.setForgiven(w, false);
            if (mended) {
                found[0] = c;
                return 2;
            }
        }
        return NOT;
    }

    /** Whether one call in a HOUSE brings the thought into order; the first such is found[k]. */
    private boolean mendsIn(int house, int k) {
        int was = thought.numbers[house];
        for (int w = 0; w < folk.wrongs; w++) {
            if (forgive(thought, w, house) == 0) continue;
            boolean mended = thought.firstBreak() == NOT;
            thought.numbers[house] = was;
            thought.setForgiven(w, false);
            if (mended) {
                found[k] = w * HOUSES + house;
                return true;
            }
        }
        return false;
    }

    /** The least steps from one of PEOPLE, by nexts, to himself, or NOT. */
    private int stepsHome(int one) {
        int here = 1 << one;
        for (int steps = 1; steps <= MOST_PEOPLE; steps++) {
            int there = 0;
            for (int p = 0; p < folk.people; p++) {
                if ((here >> p & 1) != 0) there |= nexts[p];
            }
            if ((there >> one & 1) != 0) return steps;
            here = there;
        }
        return NOT;
    }

    /** The HOUSE, not among the bits gone, whose NUMBER is nearest to v. */
    private int nearestFree(int v, int gone) {
        int best = 0;
        int least = MOST_NUMBER + 1;
        for (int h = 0; h < HOUSES; h++) {
            int far = Math.abs(now.numbers[h] - v);
            if ((gone >> h & 1) == 0 && far < least) {
                best = h;
                least = far;
            }
        }
        return best;
    }

    /** By so many turns (0 .. 2) of one: found[0] the greatest NUMBER of his HOUSE, found[1] what he forgives first. */
    private void playAlone(int one, int turns) {
        found[0] = numberBehind(one, MOST_WRONGS, turns);
        found[1] = MOST_WRONGS;
        if (turns < 1) return;
        for (int w = 0; w < folk.wrongs; w++) {
            if (folk.to[w] != one) continue;
            int number = numberBehind(one, w, turns);
            if (number > found[0]) {
                found[0] = number;
                found[1] = w;
            }
        }
    }

    /** The greatest NUMBER of his HOUSE, if one forgives 'first' first (12: nothing); thought stays as it is. */
    private int numberBehind(int one, int first, int turns) {
        int home = folk.houses[one];
        int was = thought.numbers[home];
        boolean counted = folk.isWrong(first) && forgive(thought, first, home) != 0;
        int best = thought.numbers[home];
        if (turns > 1) best += mostOf(one, home);
        thought.numbers[home] = was;
        if (counted) thought.setForgiven(first, false);
        return Math.min(MOST_NUMBER, best);
    }

    /** The most that any WRONG done to one counts now, in thought. */
    private int mostOf(int one, int home) {
        int most = 0;
        for (int w = 0; w < folk.wrongs; w++) {
            if (folk.to[w] != one || thought.isForgiven(w)) continue;
            int much = worth(thought, w, home);
            if (much > most) most = much;
        }
        return most;
    }

    private void liveDay(int z) {
        if (folk.wrongs > 0) {
            int w = (z >>> 8) % folk.wrongs;
            if (thought.isForgiven(w)) {
                thought.doAgain(w);
            } else {
                forgive(thought, w, (z >>> 16) % HOUSES);
            }
        }
        thought.pass(1);
    }

    /** PEOPLE and WRONGS, but for what deeds change. */
    private static final class Folk {
        int people = 0;
        final int[] houses = new int[MOST_PEOPLE];
        final int[] hearts = new int[MOST_PEOPLE];
        int wrongs = 0;
        final int[] by = new int[MOST_WRONGS];
        final int[] to = new int[MOST_WRONGS];
        final int[] weights = new int[MOST_WRONGS];

        boolean isOne(int one) {
            return one >= 0 && one < people;
        }

        boolean isWrong(int w) {
            return w >= 0 && w < wrongs;
        }

        boolean isSo(int one, int other, int weight) {
            return isOne(one) && isOne(other) && one != other && weight >= 1 && weight <= MOST_WEIGHT;
        }

        int settle(int house) {
            houses[people] = house;
            hearts[people] = FIRST_HEART;
            return people++;
        }

        int offend(int one, int other, int weight) {
            by[wrongs] = one;
            to[wrongs] = other;
            weights[wrongs] = weight;
            return wrongs++;
        }

        /** How many who neither did nor bore the wrong live in the house. */
        int seers(int w, int house) {
            int many = 0;
            for (int p = 0; p < people; p++) {
                if (houses[p] == house && p != by[w] && p != to[w]) many++;
            }
            return many;
        }
    }

    /** What deeds change: NUMBERS, FORGIVEN, DAYS, TODAY, what is LED. */
    private static final class Scene {
        final int[] numbers = new int[HOUSES];
        final int[] days = new int[MOST_WRONGS];
        final int[] led = new int[6];
        int forgiven = 0;
        int today = 0;

        void become(Scene other) {
            becomeUpTo(other, MOST_WRONGS);
        }

        /** WRONGS from the told one on stay as they are. */
        void becomeUpTo(Scene other, int wrongs) {
            int bits = (1 << wrongs) - 1;
            System.arraycopy(other.numbers, 0, numbers, 0, HOUSES);
            System.arraycopy(other.days, 0, days, 0, wrongs);
            System.arraycopy(other.led, 0, led, 0, led.length);
            forgiven = other.forgiven & bits | forgiven & ~bits;
            today = other.today;
        }

        boolean isForgiven(int w) {
            return (forgiven >> w & 1) != 0;
        }

        void setForgiven(int w, boolean is) {
            forgiven = is ? forgiven | 1 << w : forgiven & ~(1 << w);
        }

        void doAgain(int w) {
            setForgiven(w, false);
            days[w] = today;
        }

        void pass(int n) {
            today = Math.min(LAST_DAY, today + n);
        }

        int total() {
            int sum = 0;
            for (int h = 0; h < HOUSES; h++) sum += numbers[h];
            return sum;
        }

        int alike() {
            for (int i = 0; i < HOUSES; i++) {
                if (numbers[i] == 0) continue;
                for (int j = i + 1; j < HOUSES; j++) {
                    if (numbers[i] == numbers[j]) return HOUSES * i + j;
                }
            }
            return NOT;
        }

        /** The first HOUSE with a NUMBER less than that before it, or NOT. */
        int firstBreak() {
            for (int h = 1; h < HOUSES; h++) {
                if (numbers[h] < numbers[h - 1]) return h;
            }
            return NOT;
        }

        int lastBreak() {
            for (int h = HOUSES - 1; h > 0; h--) {
                if (numbers[h] < numbers[h - 1]) return h;
            }
            return NOT;
        }
    }

    /** THE TAPE and THE LAW, which is kept as steps over a stack of ints. */
    private static final class Law {
        private static final int LONGEST_TEXT = 120, MOST_OPEN = 6, MOST_DIGITS = 4, OPERAND = 5;
        private static final int NO_BYTE = -1;
        /** Steps: a number is 0 .. 9999, a NAME comes behind, operators are less their sign. */
        private static final int NAME = 10000;
        private static final int ASK = -'?', LINE_END = -';', NEGATE = -'~', INVERT = -'!';

        int fed = 0;
        private final int[] tape = new int[LONGEST_TEXT];
        private int[] steps = new int[LONGEST_TEXT + 1];
        private int size = 0;
        private int[] draft = new int[LONGEST_TEXT + 1];
        private int drafted = 0;
        private int at = 0;
        private final int[] names = new int[6];
        private final int[] stack = new int[LONGEST_TEXT + 1];

        int take(int letter) {
            if (fed == LONGEST_TEXT) return FULL;
            tape[fed] = letter;
            fed++;
            return fed;
        }

        int enact() {
            at = 0;
            drafted = 0;
            boolean whole = readLines();
            fed = 0;
            if (!whole) return -100 - at;
            // the former law's row serves the next draft
            int[] former = steps;
            steps = draft;
            size = drafted;
            draft = former;
            return 1;
        }

        private int nextByte() {
            return at < fed ? tape[at] : NO_BYTE;
        }

        private void emit(int step) {
            if (drafted < draft.length) {
                draft[drafted] = step;
                drafted++;
            }
        }

        /** Reading answers whether it went well; if not, the FAULT is where it stands. */
        private boolean readLines() {
            for (int line = 0; line <= LONGEST_TEXT; line++) {
                if (!readLine()) return false;
                emit(LINE_END);
                if (nextByte() == NO_BYTE) return true;
                if (nextByte() != ';') return false;
                at++;
            }
            return false;
        }

        private boolean readLine() {
            if (!readRank(0, 0)) return false;
            if (nextByte() != '?') return true;
            at++;
            emit(ASK);
            return readRank(0, 0);
        }

        /** E, A, B, S, P by rank 0 .. 4, then O. */
        private boolean readRank(int rank, int open) {
            if (rank >= OPERAND) return readOperand(open);
            if (!readRank(rank + 1, open)) return false;
            for (int i = 0; i < LONGEST_TEXT; i++) {
                int sign = nextByte();
                if (rankOf(sign) != rank) return true;
                at++;
                if (!readRank(rank + 1, open)) return false;
                emit(-sign);
                // two comparisons do not stand behind one another
                if (rank == 2) return true;
            }
            return true;
        }

        private boolean readOperand(int open) {
            int sign = nextByte();
            if (isDigit(sign)) return readNumber();
            int name = nameOf(sign);
            if (name >= 0) {
                at++;
                emit(NAME + name);
                return true;
            }
            if (sign != '(' && sign != '!' && sign != '-' || open >= MOST_OPEN) return false;
            at++;
            if (sign == '(') return readClosed(open + 1);
            if (!readOperand(open + 1)) return false;
            emit(sign == '!' ? INVERT : NEGATE);
            return true;
        }

        private boolean readClosed(int open) {
            if (!readRank(0, open) || nextByte() != ')') return false;
            at++;
            return true;
        }

        private boolean readNumber() {
            int value = 0;
            for (int i = 0; i < MOST_DIGITS && isDigit(nextByte()); i++) {
                value = value * 10 + nextByte() - '0';
                at++;
            }
            emit(value);
            return true;
        }

        private static boolean isDigit(int sign) {
            return sign >= '0' && sign <= '9';
        }

        private static int nameOf(int sign) {
            switch (sign) {
                case 'w': return 0;
                case 'a': return 1;
                case 'h': return 2;
                case 's': return 3;
                case 'n': return 4;
                case 'o': return 5;
                default: return -1;
            }
        }

        private static int rankOf(int sign) {
            switch (sign) {
                case '|': return 0;
                case '&': return 1;
                case '<':
                case '=':
                case '>': return 2;
                case '+':
                case '-': return 3;
                case '*':
                case '/':
                case '%': return 4;
                default: return -1;
            }
        }

        /** What the NAMES stand for, in their order. */
        void tell(int weight, int ago, int heart, int seers, int number, int own) {
            names[0] = weight;
            names[1] = ago;
            names[2] = heart;
            names[3] = seers;
            names[4] = number;
            names[5] = own;
        }

        private static int held(int v) {
            return v < 0 ? 0 : v > 9 ? 9 : v;
        }

        /** How much it counts, the NAMES being told. */
        int worth() {
            if (size == 0) return held(1 + names[0] / 3 + names[5] - names[1] / 20);
            int top = 0;
            boolean skips = false;
            for (int i = 0; i < size; i++) {
                int step = steps[i];
                if (skips) {
                    skips = step != LINE_END;
                } else if (step >= 0) {
                    if (top >= stack.length) return 0;
                    stack[top] = step >= NAME ? names[step - NAME] : step;
                    top++;
                } else {
                    if (top < 1) return 0;
                    int right = stack[top - 1];
                    if (step == LINE_END) return held(right);
                    if (step == INVERT) {
                        stack[top - 1] = right == 0 ? 1 : 0;
                    } else if (step == NEGATE) {
                        stack[top - 1] = -right;
                    } else {
                        top--;
                        if (step == ASK) {
                            skips = right == 0;
                        } else if (top < 1) {
                            return 0;
                        } else {
                            stack[top - 1] = joined(stack[top - 1], -step, right);
                        }
                    }
                }
            }
            return 0;
        }

        private static int joined(int left, int sign, int right) {
            switch (sign) {
                case '|': return left != 0 || right != 0 ? 1 : 0;
                case '&': return left != 0 && right != 0 ? 1 : 0;
                case '<': return left < right ? 1 : 0;
                case '=': return left == right ? 1 : 0;
                case '>': return left > right ? 1 : 0;
                case '+': return left + right;
                case '-': return left - right;
                case '*': return left * right;
                case '/': return right == 0 ? 0 : left / right;
                default: return right == 0 ? 0 : left % right;
            }
        }
    }

    /** The search for the best EVENING among WRONGS that count something. */
    private static final class Evening {
        private final int[] wrongs = new int[MOST_WRONGS];
        private final int[] doers = new int[MOST_WRONGS];
        private final int[] homes = new int[MOST_WRONGS];
        private final int[] worths = new int[MOST_WRONGS];
        private int size = 0;
        int bestSum = 0;
        int bestBits = 0;

        void clear() {
            size = 0;
            bestSum = 0;
            bestBits = 0;
        }

        /** What counts 0 is left out: of like evenings that with fewest is told. */
        void offer(int w, int doer, int home, int worth) {
            if (worth == 0 || size == MOST_WRONGS) return;
            wrongs[size] = w;
            doers[size] = doer;
            homes[size] = home;
            worths[size] = worth;
            size++;
        }

        void search() {
            choose(0, 0, 0, 0, 0);
        }

        /** From the k-th offer on; doersBits and homesBits are taken by the bits chosen. */
        private void choose(int k, int sum, int bits, int doersBits, int homesBits) {
            if (k >= size) {
                if (isBetter(sum, bits)) {
                    bestSum = sum;
                    bestBits = bits;
                }
                return;
            }
            if (sum + restFrom(k) < bestSum) return;
            int doer = 1 << doers[k];
            int home = 1 << homes[k];
            if ((doersBits & doer) == 0 && (homesBits & home) == 0) {
                choose(k + 1, sum + worths[k], bits | 1 << wrongs[k], doersBits | doer, homesBits | home);
            }
            choose(k + 1, sum, bits, doersBits, homesBits);
        }

        private int restFrom(int k) {
            int sum = 0;
            for (int i = k; i < size; i++) sum += worths[i];
            return sum;
        }

        private boolean isBetter(int sum, int bits) {
            if (sum != bestSum) return sum > bestSum;
            int fewer = Integer.bitCount(bits) - Integer.bitCount(bestBits);
            return fewer != 0 ? fewer < 0 : bits < bestBits;
        }
    }

    /** CHANGES: the first 'done' of those held may be UNDONE, the others DONE AGAIN. */
    private static final class Changes {
        private static final int MOST_HELD = 40;

        final int[] numbers = new int[MOST_HELD];
        final int[] whats = new int[MOST_HELD];
        final int[] olds = new int[MOST_HELD];
        final int[] news = new int[MOST_HELD];
        int held = 0;
        int done = 0;

        void note(int number, int what, int old, int v) {
            if (done == MOST_HELD) dropOldest();
            numbers[done] = number;
            whats[done] = what;
            olds[done] = old;
            news[done] = v;
            done++;
            held = done;
        }

        private void dropOldest() {
            System.arraycopy(numbers, 1, numbers, 0, MOST_HELD - 1);
            System.arraycopy(whats, 1, whats, 0, MOST_HELD - 1);
            System.arraycopy(olds, 1, olds, 0, MOST_HELD - 1);
            System.arraycopy(news, 1, news, 0, MOST_HELD - 1);
            done--;
        }

        boolean toUndo() {
            return done > 0;
        }

        boolean toRedo() {
            return done < held;
        }

        int stepBack() {
            done--;
            return done;
        }

        int stepOn() {
            done++;
            return done - 1;
        }
    }

    /** SHELVES; elements of every sort are held as longs, cut to their sort as they come. */
    private static final class Shelves {
        static final int LONGEST = 60;
        private static final int MANY = 6, SORTS = 5;
        private static final int EMPTY = -1, DOOR = -2;

        private final long[][] rows = new long[MANY][LONGEST];
        private final int[] sizes = new int[MANY];
        /** The sort of a ROW, or EMPTY, or DOOR. */
        private final int[] holds = {EMPTY, EMPTY, EMPTY, EMPTY, EMPTY, EMPTY};
        private final int[] held = new int[MANY];

        boolean isShelf(int shelf) {
            return shelf >= 0 && shelf < MANY;
        }

        boolean isSort(int sort) {
            return sort >= 0 && sort < SORTS;
        }

        boolean isEmpty(int shelf) {
            return holds[shelf] == EMPTY;
        }

        boolean isDoor(int shelf) {
            return holds[shelf] == DOOR;
        }

        boolean isRowOf(int shelf, int sort) {
            return holds[shelf] == sort;
        }

        boolean areAlike(int shelf, int other) {
            return isSort(holds[shelf]) && holds[shelf] == holds[other];
        }

        /** 0 if the shelf holds a ROW of the sort. */
        int refusal(int shelf, int sort) {
            if (isEmpty(shelf)) return NOTHING_THERE;
            return isRowOf(shelf, sort) ? 0 : OTHER_KIND;
        }

        int doorOn(int shelf) {
            return held[shelf];
        }

        int size(int shelf) {
            return sizes[shelf];
        }

        long valueAt(int shelf, int i) {
            return rows[shelf][i];
        }

        /** Written so that no sum wraps: n elements from i on are there. */
        boolean hasPart(int shelf, int i, int n) {
            return i >= 0 && n >= 0 && n <= sizes[shelf] && i <= sizes[shelf] - n;
        }

        void setEmpty(int shelf) {
            holds[shelf] = EMPTY;
            sizes[shelf] = 0;
        }

        void setDoor(int shelf, int number) {
            holds[shelf] = DOOR;
            held[shelf] = number;
            sizes[shelf] = 0;
        }

        void setRow(int shelf, int sort, int n) {
            holds[shelf] = sort;
            sizes[shelf] = n;
            Arrays.fill(rows[shelf], 0L);
        }

        void store(int shelf, int i, long v) {
            rows[shelf][i] = cut(holds[shelf], v);
        }

        private static long cut(int sort, long v) {
            switch (sort) {
                case 0: return (byte) v;
                case 1: return (short) v;
                case 2: return (int) v;
                case 3: return v;
                default: return v != 0 ? 1 : 0;
            }
        }

        void copyPart(int shelf, int i, int other, int j, int n) {
            System.arraycopy(rows[shelf], i, rows[other], j, n);
        }
    }

    /** BODIES of the KINDS of DOORS, and THE TRACE of their acts. */
    private static final class Doors {
        private static final int MOST_BODIES = 50, KINDS = 8, ACTS = 4, TRACED = 24, DEEPEST = 40;
        private static final int OPENS = 0, COUNTS = 1, SLAMS = 2, TELLS = 3;
        /** The KIND above each. */
        private static final int[] ABOVE = {-1, 0, 0, 2, 1, 3, 0, 4};
        /** By KIND, then act: the number of the KIND's own body, 0 if it has none. */
        private static final int[] OWN = {
            1, 10, 11, 2,
            20, 0, 0, 0,
            0, 30, 0, 0,
            0, 41, 40, 0,
            0, 0, 50, 0,
            0, 0, 0, 60,
            70, 0, 0, 0,
            0, 80, 0, 81,
        };

        int bodies = 0;
        private final int[] kinds = new int[MOST_BODIES];
        private final int[] traced = new int[TRACED];
        int ran = 0;
        /** The DOOR that acts. */
        private int number = 0;
        private int kind = 0;

        boolean isKind(int k) {
            return k >= 0 && k < KINDS;
        }

        boolean isBody(int b) {
            return b >= 0 && b < bodies;
        }

        int kindOf(int b) {
            return kinds[b];
        }

        int add(int k) {
            if (bodies == MOST_BODIES) return FULL;
            kinds[bodies] = k;
            return bodies++;
        }

        boolean isUnder(int k, int wanted) {
            int at = k;
            for (int i = 0; i < KINDS && isKind(at); i++) {
                if (at == wanted) return true;
                at = ABOVE[at];
            }
            return false;
        }

        int ranAs(int i) {
            return i >= 0 && i < ran && i < TRACED ? traced[i] : BAD;
        }

        int perform(int b, int deed, int x) {
            ran = 0;
            if (!isBody(b) || deed < 0 || deed >= ACTS) return 0;
            number = b;
            kind = kinds[b];
            return from(kind, deed, x, 0);
        }

        /** The act by the body of a KIND, or of the next above that has one. */
        private int from(int k, int deed, int x, int depth) {
            int owner = k;
            for (int i = 0; i < KINDS && isKind(owner); i++) {
                if (OWN[owner * ACTS + deed] != 0) break;
                owner = ABOVE[owner];
            }
            if (!isKind(owner) || depth > DEEPEST) return 0;
            int own = OWN[owner * ACTS + deed];
            if (ran < TRACED) traced[ran] = own;
            ran++;
            return perBody(own, ABOVE[owner], x, depth + 1);
        }

        private int perBody(int own, int above, int x, int depth) {
            switch (own) {
                case 1: return x + number;
                case 2: return from(kind, COUNTS, x, depth) - from(kind, SLAMS, 1, depth);
                case 10: return from(kind, OPENS, x, depth) * 2;
                case 11: return x ^ number;
                case 20: return from(above, OPENS, x, depth) + 3;
                case 30: return -from(above, COUNTS, x, depth);
                case 40: return from(above, SLAMS, x, depth) * 3;
                case 41: return from(above, COUNTS, x + 1, depth);
                case 50: return from(above, SLAMS, x, depth) - from(kind, OPENS, 2, depth);
                case 60: return from(above, TELLS, x, depth) ^ 5;
                case 70: return from(above, OPENS, x, depth) * 2;
                case 80: return from(above, COUNTS, x, depth) + from(kind, SLAMS, 2, depth);
                default: return from(above, TELLS, x, depth) - 1;
            }
        }
    }
}
