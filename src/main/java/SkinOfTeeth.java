/** A law in which one is believed by one's teeth, and each lie takes flakes off them. */
public final class SkinOfTeeth {
    public static final int BAD = -1, NOT = -2, FULL = -3, STATE = -5, VOID = -2000000000;

    private static final int NOTHING_THERE = -11, OTHER_KIND = -12, NO_PLACE = -13, SIZE_BELOW_0 = -14;
    private static final int PEOPLE = 7, TEETH = 8, FACTS = 10, SIZES = 10, SHELVES = 6;
    private static final int MOST_FLAKES = 9, MOST_GOLD = 9, MOST_LIES = 99, MOST_PRICE = 99, MOST_CAPS = 255;
    private static final int TAPE = 120, FAULTY = -100;
    private static final int CAPS = 8, SO = 9, GOLD = 10, WORTH = 11, LIES = 12;
    private static final int BRIBED_SAYINGS = 10;

    private final Mouths mouths = new Mouths();
    private final Mouths thought = new Mouths();
    private final Mouths pictured = new Mouths();
    private final Hearing hearing = new Hearing();
    private final Changes changes = new Changes();
    private final Bodies bodies = new Bodies();
    private final Shelf[] shelves = new Shelf[SHELVES];
    private final int[] deeds = new int[6];
    private final int[] picturedDeeds = new int[6];
    private final LawReader reader = new LawReader();
    private Law ruling = new Law();
    private int so;
    private boolean hasPicture;

    public SkinOfTeeth() {
        for (int i = 0; i < SHELVES; i++) {
            shelves[i] = new Shelf();
        }
    }

    // ---- people, facts

    public int person(int flakes) {
        if (outside(flakes, MOST_FLAKES)) {
            return BAD;
        }
        if (mouths.people >= PEOPLE) {
            return FULL;
        }
        int one = mouths.newcomer(0);
        for (int t = 0; t < TEETH; t++) {
            mouths.flakes[one * TEETH + t] = flakes;
        }
        return one;
    }

    public int people(int shelf, int i, int n) {
        if (noShelf(shelf) || n < 1 || n > PEOPLE) {
            return BAD;
        }
        Shelf row = shelves[shelf];
        if (row.holds == Shelf.NOTHING) {
            return 0;
        }
        if (row.holds != Shelf.BYTES) {
            return OTHER_KIND;
        }
        int came = 0;
        int at = i;
        while (came < n && mouths.people < PEOPLE && isNine(row, at)) {
            comeFrom(row, at);
            came++;
            at += TEETH + 1;
        }
        return came;
    }

    private static boolean isNine(Shelf row, int at) {
        if (at < 0 || at > row.size - TEETH - 1) {
            return false;
        }
        for (int t = 1; t <= TEETH; t++) {
            if (outside((int) row.cells[at + t], MOST_FLAKES)) {
                return false;
            }
        }
        return true;
    }

    private void comeFrom(Shelf row, int at) {
        int one = mouths.newcomer((int) row.cells[at] & MOST_CAPS);
        for (int t = 0; t < TEETH; t++) {
            mouths.flakes[one * TEETH + t] = (int) row.cells[at + 1 + t];
        }
    }

    public int mend(int number, int what, int v) {
        if (what > GOLD || noNumber(number, what) || outside(v, mostOf(what))) {
            return BAD;
        }
        int was = numberNow(number, what);
        if (v != was) {
            changes.note(number, what, was, v);
            makeNumber(number, what, v);
        }
        return was;
    }

    public int of(int number, int what) {
        return noNumber(number, what) ? BAD : numberNow(number, what);
    }

    private boolean noNumber(int number, int what) {
        if (outside(what, LIES)) {
            return true;
        }
        if (what == SO) {
            return outside(number, FACTS - 1);
        }
        if (what == GOLD) {
            return number != 0;
        }
        return nobody(number);
    }

    private static int mostOf(int what) {
        switch (what) {
            case CAPS:
                return MOST_CAPS;
            case SO:
                return 1;
            case GOLD:
                return MOST_GOLD;
            default:
                return MOST_FLAKES;
        }
    }

    private int numberNow(int number, int what) {
        switch (what) {
            case CAPS:
                return mouths.caps[number];
            case SO:
                return (so >> number) & 1;
            case GOLD:
                return mouths.gold;
            case WORTH:
                return mouths.worthOf(number);
            case LIES:
                return mouths.lies[number];
            default:
                return mouths.flakes[number * TEETH + what];
        }
    }

    private void makeNumber(int number, int what, int v) {
        switch (what) {
            case CAPS:
                mouths.caps[number] = v;
                break;
            case SO:
                so = (so & ~(1 << number)) | (v << number);
                break;
            case GOLD:
                mouths.gold = v;
                break;
            default:
                mouths.flakes[number * TEETH + what] = v;
                break;
        }
    }

    public int feed(int letter) {
        if (outside(letter, 255)) {
            return BAD;
        }
        return reader.take(letter);
    }

    public int law() {
        int fault = reader.read();
        reader.taped = 0;
        if (fault >= 0) {
            return FAULTY - fault;
        }
        ruling = reader.exchangeFor(ruling);
        return 1;
    }

    public int takes(int one, int fz) {
        if (nobody(one) || outside(fz, 99)) {
            return BAD;
        }
        return ruling.priceOf(mouths, one, fz / 10, fz % 10);
    }

    // ---- trials

    public int trial(int shelf, int one, int what) {
        if (noShelf(shelf) || (one != -1 && nobody(one)) || outside(what, 1)) {
            return BAD;
        }
        int refusal = refusalOfBytes(shelf);
        if (refusal != 0) {
            return refusal;
        }
        hear(shelf);
        if (one == -1) {
            return hearing.sayings;
        }
        return what == 0 ? hearing.then.worthOf(one) : hearing.then.lies[one];
    }

    public int tooth(int shelf, int ot) {
        if (noShelf(shelf) || noTooth(ot)) {
            return BAD;
        }
        int refusal = refusalOfBytes(shelf);
        if (refusal != 0) {
            return refusal;
        }
        hear(shelf);
        return hearing.then.flakes[ot / 10 * TEETH + ot % 10];
    }

    public int gone(int shelf) {
        int refusal = noShelf(shelf) ? BAD : refusalOfBytes(shelf);
        if (refusal != 0) {
            return refusal;
        }
        hear(shelf);
        return hearing.firstGone;
    }

    public int believed(int shelf, int fact) {
        if (noShelf(shelf) || outside(fact, FACTS - 1)) {
            return BAD;
        }
        int refusal = refusalOfBytes(shelf);
        if (refusal != 0) {
            return refusal;
        }
        hear(shelf);
        return hearing.beliefIn(fact);
    }

    public int told(int shelf, int what) {
        if (noShelf(shelf) || outside(what, 3)) {
            return BAD;
        }
        int refusal = refusalOfBytes(shelf);
        if (refusal != 0) {
            return refusal;
        }
        hear(shelf);
        switch (what) {
            case 0:
                return hearing.wrongBeliefs(so);
            case 1:
                return hearing.liars;
            case 2:
                return ((1 << FACTS) - 1) & ~hearing.heard;
            default:
                return hearing.asWorthyAs(mouths);
        }
    }

    public int have(int shelf, int fv, int what) {
        if (noShelf(shelf) || noClaim(fv) || outside(what, 2)) {
            return BAD;
        }
        int refusal = refusalOfBytes(shelf);
        if (refusal != 0) {
            return refusal;
        }
        hear(shelf);
        if (hearing.beliefIn(fv / 10) == fv % 10) {
            return what == 0 ? 0 : NOT;
        }
        int cheapest = cheapestWay(fv / 10, fv % 10);
        if (cheapest == NOT) {
            return NOT;
        }
        switch (what) {
            case 0:
                return cheapest / (PEOPLE * SIZES);
            case 1:
                return cheapest / SIZES % PEOPLE;
            default:
                return cheapest % SIZES;
        }
    }

    /** The least of (flakes, one, size), as one number, so that one comparison keeps the order of the three. */
    private int cheapestWay(int fact, int said) {
        thought.copyFrom(hearing.then);
        int best = NOT;
        for (int one = 0; one < mouths.people; one++) {
            int before = hearing.last[one * FACTS + fact];
            for (int size = 0; size < SIZES; size++) {
                hearing.then.copyFrom(thought);
                int off = hearing.speak(ruling, so, one, fact * 2 + said, size);
                int way = (off * PEOPLE + one) * SIZES + size;
                if (hearing.beliefIn(fact) == said && (best == NOT || way < best)) {
                    best = way;
                }
            }
            hearing.last[one * FACTS + fact] = before;
        }
        return best;
    }

    public int left(int one, int size) {
        if (nobody(one) || outside(size, SIZES - 1)) {
            return BAD;
        }
        thought.copyFrom(mouths);
        for (int told = 0; told <= MOST_LIES; told++) {
            if (thought.isGone(one)) {
                return told;
            }
            thought.lie(ruling, one, 0, size);
        }
        return NOT;
    }

    public int enough(int x, int what) {
        if (outside(x, 999) || outside(what, 1)) {
            return BAD;
        }
        int best = NOT;
        for (int who = 0; who < 1 << mouths.people; who++) {
            boolean fewer = best == NOT || Integer.bitCount(who) < Integer.bitCount(best);
            if (fewer && mouths.worthTogether(who) >= x) {
                best = who;
            }
        }
        return best == NOT || what == 1 ? best : Integer.bitCount(best);
    }

    public int jury(int pqr) {
        if (outside(pqr, 999)) {
            return BAD;
        }
        int p = pqr / 100;
        int q = pqr / 10 % 10;
        int r = pqr % 10;
        if (nobody(p) || nobody(q) || nobody(r) || p == q || p == r || q == r) {
            return BAD;
        }
        if (isLesser(p, q) != isLesser(p, r)) {
            return p;
        }
        return isLesser(q, p) != isLesser(q, r) ? q : r;
    }

    private boolean isLesser(int one, int other) {
        int difference = mouths.worthOf(one) - mouths.worthOf(other);
        return difference < 0 || (difference == 0 && one < other);
    }

    public int bribe(int shelf, int fv, int what) {
        if (noShelf(shelf) || noClaim(fv) || outside(what, 1)) {
            return BAD;
        }
        int refusal = refusalOfBytes(shelf);
        if (refusal != 0) {
            return refusal;
        }
        hearing.summon(shelves[shelf], mouths.people);
        if (hearing.sayings > BRIBED_SAYINGS) {
            return STATE;
        }
        int turned = fewestTurned(fv / 10, fv % 10);
        return turned == NOT || what == 1 ? turned : Integer.bitCount(turned);
    }

    private int fewestTurned(int fact, int said) {
        int best = NOT;
        for (int turned = 0; turned < 1 << hearing.sayings; turned++) {
            if (best == NOT || Integer.bitCount(turned) < Integer.bitCount(best)) {
                hearing.hold(mouths, ruling, so, turned);
                if (hearing.beliefIn(fact) == said) {
                    best = turned;
                }
            }
        }
        return best;
    }

    // ---- mirrors, draws

    public int liesFor(int shelf, int one, int size) {
        if (noShelf(shelf) || nobody(one) || outside(size, SIZES - 1)) {
            return BAD;
        }
        int refusal = refusalOfMirror(shelf);
        if (refusal != 0) {
            return refusal;
        }
        thought.copyFrom(mouths);
        for (int told = 0; told <= MOST_LIES; told++) {
            if (thought.looksLike(one, shelves[shelf])) {
                return told;
            }
            thought.lie(ruling, one, 0, size);
        }
        return NOT;
    }

    public int two(int shelf, int one, int what) {
        if (noShelf(shelf) || nobody(one) || outside(what, 1)) {
            return BAD;
        }
        int refusal = refusalOfMirror(shelf);
        if (refusal != 0) {
            return refusal;
        }
        int ways = 0;
        int first = NOT;
        for (int pair = 0; pair < SIZES * SIZES; pair++) {
            thought.copyFrom(mouths);
            thought.lie(ruling, one, 0, pair / SIZES);
            thought.lie(ruling, one, 0, pair % SIZES);
            if (thought.looksLike(one, shelves[shelf])) {
                ways++;
                first = first == NOT ? pair : first;
            }
        }
        return what == 0 ? ways : first;
    }

    public int others(int shelf) {
        int refusal = noShelf(shelf) ? BAD : refusalOfMirror(shelf);
        if (refusal != 0) {
            return refusal;
        }
        int who = 0;
        for (int one = 0; one < mouths.people; one++) {
            if (mouths.looksLike(one, shelves[shelf])) {
                who |= 1 << one;
            }
        }
        return who;
    }

    public int isSo(int tm, int on, int what) {
        boolean noShelves = tm < 0 || noShelf(tm / 10) || noShelf(tm % 10);
        if (noShelves || on < 0 || nobody(on / 10) || on % 10 < 1 || on % 10 > 8 || outside(what, 2)) {
            return BAD;
        }
        int ofTrial = refusalOfBytes(tm / 10);
        int ofMirror = refusalOfMirror(tm % 10);
        if (ofTrial == NOTHING_THERE || ofMirror == NOTHING_THERE) {
            return NOTHING_THERE;
        }
        if (ofTrial != 0 || ofMirror != 0) {
            return ofTrial != 0 ? ofTrial : ofMirror;
        }
        hearing.summon(shelves[tm / 10], mouths.people);
        return waysOfSo(shelves[tm % 10], on / 10, on % 10, what);
    }

    private int waysOfSo(Shelf mirror, int one, int facts, int what) {
        int told = (1 << facts) - 1;
        int ways = 0;
        int least = NOT;
        int sure = told;
        for (int way = 0; way <= told; way++) {
            hearing.hold(mouths, ruling, (so & ~told) | way, 0);
            if (hearing.then.looksLike(one, mirror)) {
                ways++;
                least = least == NOT ? way : least;
                sure &= way;
            }
        }
        if (what == 0) {
            return ways;
        }
        return what == 1 || ways == 0 ? least : sure;
    }

    public int drawn(int seed, int nm, int what) {
        int days = nm / 100;
        int sayings = nm % 100;
        if (days < 1 || days > 30 || sayings < 1 || sayings > 60 || outside(what, 1)) {
            return BAD;
        }
        if (mouths.people < 1) {
            return 0;
        }
        int z = seed;
        int lies = 0;
        int flakes = 0;
        for (int day = 0; day < days; day++) {
            thought.copyFrom(mouths);
            for (int i = 0; i < sayings; i++) {
                z = z * 1103515245 + 12345;
                int fact = (z >>> 12) % FACTS;
                if (isLie(so, fact, (z >>> 18) % 2)) {
                    thought.lie(ruling, (z >>> 4) % mouths.people, fact, (z >>> 22) % SIZES);
                    lies++;
                }
            }
            flakes += thought.flakesOfAll();
        }
        return what == 0 ? lies : flakes;
    }

    // ---- in deed

    public int say(int one, int fvz) {
        if (nobody(one) || fvz < 0 || noClaim(fvz / 10)) {
            return BAD;
        }
        deeds[0]++;
        int fact = fvz / 100;
        if (!isLie(so, fact, fvz / 10 % 10)) {
            return 0;
        }
        int off = mouths.lie(ruling, one, fact, fvz % 10);
        deeds[1]++;
        deeds[2] += off;
        return off;
    }

    public int lend(int ab, int tooth) {
        if (ab < 0 || nobody(ab / 10) || nobody(ab % 10) || ab / 10 == ab % 10 || outside(tooth, TEETH - 1)) {
            return BAD;
        }
        mouths.exchange(ab / 10, ab % 10, tooth);
        deeds[3]++;
        return mouths.flakes[ab / 10 * TEETH + tooth];
    }

    public int cap(int one, int tooth) {
        if (nobody(one) || outside(tooth, TEETH - 1)) {
            return BAD;
        }
        if (mouths.isCapped(one, tooth)) {
            return STATE;
        }
        mouths.caps[one] |= 1 << tooth;
        deeds[4]++;
        return Integer.bitCount(mouths.caps[one]);
    }

    public int year() {
        int lies = 0;
        for (int one = 0; one < mouths.people; one++) {
            lies += mouths.lies[one];
            mouths.lies[one] = 0;
        }
        deeds[5]++;
        return lies;
    }

    public int led(int what) {
        return outside(what, deeds.length - 1) ? BAD : deeds[what];
    }

    public int image() {
        pictured.copyFrom(mouths);
        System.arraycopy(deeds, 0, picturedDeeds, 0, deeds.length);
        hasPicture = true;
        return deeds[0];
    }

    public int back() {
        if (!hasPicture) {
            return STATE;
        }
        mouths.layBack(pictured);
        System.arraycopy(picturedDeeds, 0, deeds, 0, deeds.length);
        return deeds[0];
    }

    public int undo() {
        if (changes.done < 1) {
            return STATE;
        }
        changes.done--;
        int i = changes.done;
        makeNumber(changes.numbers[i], changes.whats[i], changes.before[i]);
        return changes.done;
    }

    public int redo() {
        if (changes.done >= changes.known) {
            return STATE;
        }
        int i = changes.done;
        makeNumber(changes.numbers[i], changes.whats[i], changes.after[i]);
        changes.done++;
        return changes.known - changes.done;
    }

    // ---- acts, shelves

    public int body(int kind) {
        if (outside(kind, Bodies.KINDS - 1)) {
            return BAD;
        }
        return bodies.bear(kind);
    }

    public int act(int body, int act, int x) {
        return bodies.perform(body, act, x);
    }

    public int trace(int i) {
        return outside(i, bodies.tracedBodies() - 1) ? BAD : bodies.traced[i];
    }

    public int keep(int shelf, int body) {
        if (noShelf(shelf) || body < -1 || body >= bodies.born) {
            return BAD;
        }
        shelves[shelf].holds = body == -1 ? Shelf.NOTHING : Shelf.BODY;
        shelves[shelf].body = body;
        return 1;
    }

    public int row(int shelf, int sort, int n) {
        if (noShelf(shelf) || outside(sort, Shelf.BOOLEANS) || n > Shelf.CELLS) {
            return BAD;
        }
        if (n < 0) {
            return SIZE_BELOW_0;
        }
        shelves[shelf].becomeRow(sort, n);
        return 1;
    }

    public int put(int shelf, int i, long v) {
        int refusal = refusalOfPlace(shelf, i);
        if (refusal != 0) {
            return refusal;
        }
        shelves[shelf].cells[i] = Shelf.narrowed(shelves[shelf].holds, v);
        return 1;
    }

    public long element(int shelf, int i) {
        return refusalOfPlace(shelf, i) != 0 ? Long.MIN_VALUE : shelves[shelf].cells[i];
    }

    public int shift(int shelf, int i, int other, int j, int n) {
        if (noShelf(shelf) || noShelf(other)) {
            return BAD;
        }
        Shelf from = shelves[shelf];
        Shelf to = shelves[other];
        if (from.holds == Shelf.NOTHING || to.holds == Shelf.NOTHING) {
            return NOTHING_THERE;
        }
        if (from.holds == Shelf.BODY || from.holds != to.holds) {
            return OTHER_KIND;
        }
        if (from.lacks(i, n) || to.lacks(j, n)) {
            return NO_PLACE;
        }
        System.arraycopy(from.cells, i, to.cells, j, n);
        return n;
    }

    public int taken(int shelf, int k) {
        if (noShelf(shelf) || outside(k, Bodies.KINDS - 1)) {
            return BAD;
        }
        Shelf held = shelves[shelf];
        if (held.holds == Shelf.NOTHING) {
            return NOTHING_THERE;
        }
        if (held.holds != Shelf.BODY) {
            return OTHER_KIND;
        }
        int kind = bodies.kinds[held.body];
        return Bodies.isUnder(kind, k) ? kind : OTHER_KIND;
    }

    public int count(int what) {
        switch (what) {
            case 0:
                return mouths.people;
            case 1:
                return mouths.howManyGone();
            case 2:
                return reader.taped;
            case 3:
                return changes.done;
            case 4:
                return bodies.born;
            case 5:
                return bodies.ran;
            default:
                return BAD;
        }
    }

    // ---- what the calls share

    private static boolean outside(int v, int most) {
        return v < 0 || v > most;
    }

    private static boolean noShelf(int shelf) {
        return outside(shelf, SHELVES - 1);
    }

    /** A claim is 10 times the fact, and what is said of it. */
    private static boolean noClaim(int fv) {
        return fv < 0 || outside(fv / 10, FACTS - 1) || fv % 10 > 1;
    }

    private boolean nobody(int one) {
        return outside(one, mouths.people - 1);
    }

    private boolean noTooth(int ot) {
        return ot < 0 || nobody(ot / 10) || ot % 10 >= TEETH;
    }

    private static boolean isLie(int so, int fact, int said) {
        return ((so >> fact) & 1) != said;
    }

    private int refusalOfBytes(int shelf) {
        int holds = shelves[shelf].holds;
        if (holds == Shelf.NOTHING) {
            return NOTHING_THERE;
        }
        return holds == Shelf.BYTES ? 0 : OTHER_KIND;
    }

    private int refusalOfMirror(int shelf) {
        int refusal = refusalOfBytes(shelf);
        return refusal == 0 && shelves[shelf].size != TEETH ? NOT : refusal;
    }

    private int refusalOfPlace(int shelf, int i) {
        if (noShelf(shelf)) {
            return BAD;
        }
        int holds = shelves[shelf].holds;
        if (holds == Shelf.NOTHING) {
            return NOTHING_THERE;
        }
        if (holds == Shelf.BODY) {
            return OTHER_KIND;
        }
        return outside(i, shelves[shelf].size - 1) ? NO_PLACE : 0;
    }

    private void hear(int shelf) {
        hearing.summon(shelves[shelf], mouths.people);
        hearing.hold(mouths, ruling, so, 0);
    }

    /** The mouths of all people, as they are or as they would be. */
    private static final class Mouths {
        private int people;
        private int gold = 3;
        private final int[] flakes = new int[PEOPLE * TEETH];
        private final int[] caps = new int[PEOPLE];
        private final int[] lies = new int[PEOPLE];

        /** The caller has seen that there is room for one more. */
        int newcomer(int withCaps) {
            int one = people;
            caps[one] = withCaps;
            lies[one] = 0;
            people++;
            return one;
        }

        void copyFrom(Mouths other) {
            people = other.people;
            gold = other.gold;
            System.arraycopy(other.flakes, 0, flakes, 0, flakes.length);
            System.arraycopy(other.caps, 0, caps, 0, caps.length);
            System.arraycopy(other.lies, 0, lies, 0, lies.length);
        }

        /** Gold and newcomers' teeth are no part of an image. */
        void layBack(Mouths picture) {
            for (int one = 0; one < people; one++) {
                if (one < picture.people) {
                    System.arraycopy(picture.flakes, one * TEETH, flakes, one * TEETH, TEETH);
                    caps[one] = picture.caps[one];
                    lies[one] = picture.lies[one];
                } else {
                    lies[one] = 0;
                }
            }
        }

        int flakesOf(int one) {
            int sum = 0;
            for (int t = 0; t < TEETH; t++) {
                sum += flakes[one * TEETH + t];
            }
            return sum;
        }

        int flakesOfAll() {
            int sum = 0;
            for (int one = 0; one < people; one++) {
                sum += flakesOf(one);
            }
            return sum;
        }

        int worthOf(int one) {
            return flakesOf(one) + gold * Integer.bitCount(caps[one]);
        }

        int worthTogether(int who) {
            int sum = 0;
            for (int one = 0; one < people; one++) {
                if ((who >> one & 1) == 1) {
                    sum += worthOf(one);
                }
            }
            return sum;
        }

        boolean isGone(int one) {
            return flakesOf(one) == 0;
        }

        int howManyGone() {
            int sum = 0;
            for (int one = 0; one < people; one++) {
                if (isGone(one)) {
                    sum++;
                }
            }
            return sum;
        }

        boolean isCapped(int one, int t) {
            return (caps[one] >> t & 1) == 1;
        }

        boolean looksLike(int one, Shelf mirror) {
            for (int t = 0; t < TEETH; t++) {
                if (flakes[one * TEETH + t] != mirror.cells[t]) {
                    return false;
                }
            }
            return true;
        }

        /** Tells a lie: how many flakes came off. */
        int lie(Law law, int one, int fact, int size) {
            int due = law.priceOf(this, one, fact, size);
            int off = 0;
            for (int i = 0; i < TEETH && off < due; i++) {
                int t = (size + i) % TEETH;
                if (!isCapped(one, t)) {
                    int place = one * TEETH + t;
                    int here = Math.min(due - off, flakes[place]);
                    flakes[place] -= here;
                    off += here;
                }
            }
            lies[one]++;
            return off;
        }

        void exchange(int a, int b, int t) {
            int kept = flakes[a * TEETH + t];
            flakes[a * TEETH + t] = flakes[b * TEETH + t];
            flakes[b * TEETH + t] = kept;
            if (isCapped(a, t) != isCapped(b, t)) {
                caps[a] ^= 1 << t;
                caps[b] ^= 1 << t;
            }
        }
    }

    /** A law's text, worked into steps: operands go on a stack, operators take them off. */
    private static final class Law {
        private static final int NUMBER = 0, NAME = 1, LINE_END = 2, ONLY_IF = 3;
        private static final int STEPS = TAPE + 8, NAMES = 6;

        private final int[] signs = new int[STEPS];
        private final int[] values = new int[STEPS];
        private final int[] stack = new int[STEPS];
        private final int[] names = new int[NAMES];
        private int steps;
        private int top;

        /** A sign is one of the four above, an operator's own letter, or its negative where it stands alone. */
        void add(int sign, int value) {
            if (steps < STEPS) {
                signs[steps] = sign;
                values[steps] = value;
                steps++;
            }
        }

        /** A line whose condition is 0 is left for the step behind it. */
        void skipToHere(int condition) {
            if (condition >= 0 && condition < steps) {
                values[condition] = steps;
            }
        }

        /** How many flakes a lie takes, whether they are there or not. */
        int priceOf(Mouths mouths, int one, int fact, int size) {
            if (steps == 0) {
                return 1 + size / 2;
            }
            int t = size % TEETH;
            names[0] = size;
            names[1] = mouths.lies[one];
            names[2] = mouths.worthOf(one);
            names[3] = t;
            names[4] = mouths.isCapped(one, t) ? 1 : 0;
            names[5] = fact;
            return Math.max(0, Math.min(MOST_PRICE, workedOut()));
        }

        private int workedOut() {
            top = 0;
            int at = 0;
            for (int i = 0; i < steps && at >= 0 && at < steps; i++) {
                int sign = signs[at];
                int value = values[at];
                at++;
                switch (sign) {
                    case NUMBER:
                        push(value);
                        break;
                    case NAME:
                        push(value >= 0 && value < NAMES ? names[value] : 0);
                        break;
                    case LINE_END:
                        return pop();
                    case ONLY_IF:
                        at = pop() == 0 ? value : at;
                        break;
                    case -'!':
                        push(pop() == 0 ? 1 : 0);
                        break;
                    case -'-':
                        push(-pop());
                        break;
                    default:
                        int b = pop();
                        push(together(sign, pop(), b));
                        break;
                }
            }
            return 0;
        }

        private static int together(int sign, int a, int b) {
            switch (sign) {
                case '|':
                    return a != 0 || b != 0 ? 1 : 0;
                case '&':
                    return a != 0 && b != 0 ? 1 : 0;
                case '<':
                    return a < b ? 1 : 0;
                case '=':
                    return a == b ? 1 : 0;
                case '>':
                    return a > b ? 1 : 0;
                case '+':
                    return a + b;
                case '-':
                    return a - b;
                case '*':
                    return a * b;
                case '/':
                    return b == 0 ? 0 : a / b;
                case '%':
                    return b == 0 ? 0 : a % b;
                default:
                    return 0;
            }
        }

        private void push(int v) {
            if (top < STEPS) {
                stack[top] = v;
                top++;
            }
        }

        private int pop() {
            if (top < 1) {
                return 0;
            }
            top--;
            return stack[top];
        }
    }

    /** Holds the tape, and reads it from left to right; it steps over no byte with which no text goes on. */
    private static final class LawReader {
        private static final int OPEN = 6, DIGITS = 4;
        private static final String NAMED = "zlwtcf";

        private final int[] tape = new int[TAPE];
        private int taped;
        private Law law = new Law();
        private int place;

        int take(int letter) {
            if (taped >= TAPE) {
                return FULL;
            }
            tape[taped] = letter;
            taped++;
            return taped;
        }

        /** Gives the law that was read, and keeps the former one to read the next into. */
        Law exchangeFor(Law former) {
            Law given = law;
            law = former;
            return given;
        }

        /** The fault's place, or -1. */
        int read() {
            law.steps = 0;
            place = 0;
            boolean well = readLine();
            for (int i = 0; i < TAPE && well && next() == ';'; i++) {
                place++;
                well = readLine();
            }
            return well && place == taped ? -1 : place;
        }

        private int next() {
            return place < taped ? tape[place] : -1;
        }

        private boolean readLine() {
            boolean well = readAny(0);
            int condition = -1;
            if (well && next() == '?') {
                place++;
                condition = law.steps;
                law.add(Law.ONLY_IF, 0);
                well = readAny(0);
            }
            law.add(Law.LINE_END, 0);
            law.skipToHere(condition);
            return well;
        }

        private boolean readAny(int open) {
            boolean well = readAll(open);
            for (int i = 0; i < TAPE && well && next() == '|'; i++) {
                place++;
                well = readAll(open);
                law.add('|', 0);
            }
            return well;
        }

        private boolean readAll(int open) {
            boolean well = readCompared(open);
            for (int i = 0; i < TAPE && well && next() == '&'; i++) {
                place++;
                well = readCompared(open);
                law.add('&', 0);
            }
            return well;
        }

        private boolean readCompared(int open) {
            boolean well = readSum(open);
            int sign = next();
            if (well && (sign == '<' || sign == '=' || sign == '>')) {
                place++;
                well = readSum(open);
                law.add(sign, 0);
            }
            return well;
        }

        private boolean readSum(int open) {
            boolean well = readProduct(open);
            int sign = next();
            for (int i = 0; i < TAPE && well && (sign == '+' || sign == '-'); i++) {
                place++;
                well = readProduct(open);
                law.add(sign, 0);
                sign = next();
            }
            return well;
        }

        private boolean readProduct(int open) {
            boolean well = readOperand(open);
            int sign = next();
            for (int i = 0; i < TAPE && well && (sign == '*' || sign == '/' || sign == '%'); i++) {
                place++;
                well = readOperand(open);
                law.add(sign, 0);
                sign = next();
            }
            return well;
        }

        private boolean readOperand(int open) {
            int sign = next();
            if (isDigit(sign)) {
                readNumber();
                return true;
            }
            int name = sign < 0 ? -1 : NAMED.indexOf((char) sign);
            if (name >= 0) {
                place++;
                law.add(Law.NAME, name);
                return true;
            }
            return open < OPEN && readOpened(sign, open + 1);
        }

        private boolean readOpened(int sign, int open) {
            if (sign == '(') {
                place++;
                if (!readAny(open) || next() != ')') {
                    return false;
                }
                place++;
                return true;
            }
            if (sign == '!' || sign == '-') {
                place++;
                boolean well = readOperand(open);
                law.add(-sign, 0);
                return well;
            }
            return false;
        }

        private void readNumber() {
            int v = 0;
            for (int i = 0; i < DIGITS && isDigit(next()); i++) {
                v = v * 10 + next() - '0';
                place++;
            }
            law.add(Law.NUMBER, v);
        }

        private static boolean isDigit(int sign) {
            return sign >= '0' && sign <= '9';
        }
    }

    /** What a shelf holds; its cells are made once, for whatever row comes to it. */
    private static final class Shelf {
        private static final int NOTHING = -2, BODY = -1, BYTES = 0, SHORTS = 1, INTS = 2, LONGS = 3, BOOLEANS = 4;
        private static final int CELLS = 60;

        private int holds = NOTHING;
        private int size;
        private int body;
        private final long[] cells = new long[CELLS];

        void becomeRow(int sort, int n) {
            holds = sort;
            size = n;
            for (int i = 0; i < CELLS; i++) {
                cells[i] = 0;
            }
        }

        boolean lacks(int from, int n) {
            return from < 0 || n < 0 || n > size - from;
        }

        static long narrowed(int sort, long v) {
            switch (sort) {
                case BYTES:
                    return (byte) v;
                case SHORTS:
                    return (short) v;
                case INTS:
                    return (int) v;
                case LONGS:
                    return v;
                default:
                    return v != 0 ? 1 : 0;
            }
        }
    }

    /** A trial's sayings, and how all would be behind them. */
    private static final class Hearing {
        private static final int MOST = 15, PARTS = 4, SILENT = -1;

        private int sayings;
        private final int[] speakers = new int[MOST];
        private final int[] claims = new int[MOST];
        private final int[] sizes = new int[MOST];
        private final Mouths then = new Mouths();
        private final int[] last = new int[PEOPLE * FACTS];
        private int liars;
        private int heard;
        private int firstGone;

        void summon(Shelf row, int people) {
            sayings = 0;
            for (int at = 0; at + PARTS <= row.size && sayings < MOST; at += PARTS) {
                long one = row.cells[at];
                long fact = row.cells[at + 1];
                long said = row.cells[at + 2];
                long size = row.cells[at + 3];
                boolean someone = one >= 0 && one < people;
                boolean claimed = fact >= 0 && fact < FACTS && said >= 0 && said <= 1;
                if (!someone || !claimed || size < 0 || size >= SIZES) {
                    return;
                }
                speakers[sayings] = (int) one;
                claims[sayings] = (int) (fact * 2 + said);
                sizes[sayings] = (int) size;
                sayings++;
            }
        }

        /** Holds the trial from now on; the sayings among the turned ones (bits) say the contrary. */
        void hold(Mouths now, Law law, int so, int turned) {
            then.copyFrom(now);
            for (int i = 0; i < last.length; i++) {
                last[i] = SILENT;
            }
            liars = 0;
            heard = 0;
            firstGone = NOT;
            for (int i = 0; i < sayings; i++) {
                speak(law, so, speakers[i], claims[i] ^ (turned >> i & 1), sizes[i]);
                if (firstGone == NOT && then.isGone(speakers[i])) {
                    firstGone = i;
                }
            }
        }

        /** One more saying (a claim is twice the fact, and what is said): how many flakes came off. */
        int speak(Law law, int so, int one, int claim, int size) {
            int fact = claim / 2;
            int said = claim % 2;
            last[one * FACTS + fact] = said;
            heard |= 1 << fact;
            if (!isLie(so, fact, said)) {
                return 0;
            }
            liars |= 1 << one;
            return then.lie(law, one, fact, size);
        }

        int beliefIn(int fact) {
            int balance = 0;
            for (int one = 0; one < then.people; one++) {
                int said = last[one * FACTS + fact];
                if (said != SILENT) {
                    balance += said == 1 ? then.worthOf(one) : -then.worthOf(one);
                }
            }
            if (balance == 0) {
                return NOT;
            }
            return balance > 0 ? 1 : 0;
        }

        int wrongBeliefs(int so) {
            int wrong = 0;
            for (int fact = 0; fact < FACTS; fact++) {
                int belief = beliefIn(fact);
                if (belief != NOT && isLie(so, fact, belief)) {
                    wrong++;
                }
            }
            return wrong;
        }

        int asWorthyAs(Mouths now) {
            int who = 0;
            for (int one = 0; one < now.people; one++) {
                if (then.worthOf(one) == now.worthOf(one)) {
                    who |= 1 << one;
                }
            }
            return who;
        }
    }

    /** The changes that may be undone (ahead of done) or done again (from there to known). */
    private static final class Changes {
        private static final int MOST = 40;

        private int done;
        private int known;
        private final int[] numbers = new int[MOST];
        private final int[] whats = new int[MOST];
        private final int[] before = new int[MOST];
        private final int[] after = new int[MOST];

        void note(int number, int what, int was, int v) {
            if (done >= MOST) {
                dropOldest();
            }
            numbers[done] = number;
            whats[done] = what;
            before[done] = was;
            after[done] = v;
            done++;
            known = done;
        }

        private void dropOldest() {
            done = MOST - 1;
            System.arraycopy(numbers, 1, numbers, 0, done);
            System.arraycopy(whats, 1, whats, 0, done);
            System.arraycopy(before, 1, before, 0, done);
            System.arraycopy(after, 1, after, 0, done);
        }
    }

    /** Bodies with their kinds, and the trace of the latest act. */
    private static final class Bodies {
        private static final int KINDS = 8, ACTS = 4, MOST = 50, TRACED = 24, DEEPEST = 40;
        private static final int BITES = 0, LIES = 1, GRINS = 2, TELLS = 3;
        private static final int[] ABOVE = {-1, 0, 0, 2, 1, 3, 0, 6};
        /** By kinds, then acts: the number of the kind's own body, 0 where it has none. */
        private static final int[] OWN = {
            1, 10, 11, 2,
            20, 0, 0, 0,
            0, 30, 0, 0,
            0, 41, 40, 0,
            0, 0, 0, 50,
            0, 0, 60, 61,
            70, 0, 0, 0,
            81, 80, 0, 0
        };

        private int born;
        private final int[] kinds = new int[MOST];
        private int ran;
        private final int[] traced = new int[TRACED];

        int bear(int kind) {
            if (born >= MOST) {
                return FULL;
            }
            kinds[born] = kind;
            born++;
            return born - 1;
        }

        static boolean isUnder(int kind, int k) {
            int at = kind;
            for (int i = 0; i < KINDS && at >= 0 && at != k; i++) {
                at = ABOVE[at];
            }
            return at == k;
        }

        int tracedBodies() {
            return Math.min(ran, TRACED);
        }

        int perform(int n, int deed, int x) {
            ran = 0;
            if (outside(n, born - 1) || outside(deed, ACTS - 1)) {
                return 0;
            }
            return run(n, kinds[n], deed, x, 0);
        }

        /** Runs the body of a deed that the given kind has, or the next one above it. */
        private int run(int n, int from, int deed, int x, int depth) {
            int kind = from;
            for (int i = 0; i < KINDS && kind >= 0 && OWN[kind * ACTS + deed] == 0; i++) {
                kind = ABOVE[kind];
            }
            if (kind < 0 || depth > DEEPEST) {
                return 0;
            }
            int number = OWN[kind * ACTS + deed];
            if (ran < TRACED) {
                traced[ran] = number;
            }
            ran++;
            return ABOVE[kind] < 0 ? rootWork(number, n, x, depth) : work(number, n, ABOVE[kind], x, depth);
        }

        private int rootWork(int number, int n, int x, int depth) {
            int own = kinds[n];
            int deeper = depth + 1;
            switch (number) {
                case 1:
                    return x + n;
                case 10:
                    return run(n, own, BITES, x, deeper) * 2;
                case 11:
                    return x ^ n;
                case 2:
                    return run(n, own, LIES, x, deeper) - run(n, own, GRINS, 1, deeper);
                default:
                    return 0;
            }
        }

        private int work(int number, int n, int above, int x, int depth) {
            int own = kinds[n];
            int deeper = depth + 1;
            switch (number) {
                case 20:
                    return run(n, above, BITES, x, deeper) + 3;
                case 30:
                    return -run(n, above, LIES, x, deeper);
                case 40:
                    return run(n, above, GRINS, x, deeper) * 3;
                case 41:
                    return run(n, above, LIES, x + 1, deeper);
                case 50:
                    return run(n, above, TELLS, x, deeper) ^ 5;
                case 60:
                    return run(n, above, GRINS, x, deeper) - run(n, own, BITES, 2, deeper);
                case 61:
                    return run(n, above, TELLS, x, deeper) + 1;
                case 70:
                    return run(n, above, BITES, x, deeper) * 2;
                case 80:
                    return run(n, above, LIES, x, deeper) + run(n, own, GRINS, 2, deeper);
                case 81:
                    return run(n, above, BITES, x, deeper) - 1;
                default:
                    return 0;
            }
        }
    }
}
