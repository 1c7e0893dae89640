import java.util.ArrayList;
import java.util.List;

/** The document told a second time, as plainly as can be and with all of Java, to hold the program against. */
final class Model {
    static final class One {
        int[] flakes = new int[8];
        boolean[] capped = new boolean[8];
        int lies;

        One copy() {
            One c = new One();
            c.flakes = flakes.clone();
            c.capped = capped.clone();
            c.lies = lies;
            return c;
        }

        int bits() {
            int b = 0;
            for (int t = 0; t < 8; t++) {
                b += capped[t] ? 1 << t : 0;
            }
            return b;
        }

        void bits(int b) {
            for (int t = 0; t < 8; t++) {
                capped[t] = (b & 1 << t) != 0;
            }
        }

        int sum() {
            int s = 0;
            for (int f : flakes) {
                s += f;
            }
            return s;
        }

        boolean isGone() {
            return sum() == 0;
        }
    }

    record Saying(int one, int fact, int said, int size) { }

    record Change(int number, int what, int before, int after) { }

    private List<One> people = new ArrayList<>();
    private int[] so = new int[10];
    private int gold = 3;
    private String text;
    private String tape = "";
    private int[] led = new int[6];
    private List<One> picture;
    private int[] pictureLed;
    private final List<Change> undoable = new ArrayList<>();
    private final List<Change> redoable = new ArrayList<>();
    private final List<ModelBody> bodies = new ArrayList<>();
    private List<Integer> trace = new ArrayList<>();
    private final Object[] held = new Object[6];
    private final int[] sorts = new int[6];

    // ---- what a court is

    private int worth(One o) {
        return o.sum() + gold * Integer.bitCount(o.bits());
    }

    private int price(One o, int fact, int size) {
        if (text == null) {
            return 1 + size / 2;
        }
        int[] names = {size, o.lies, worth(o), size % 8, o.capped[size % 8] ? 1 : 0, fact};
        return Math.max(0, Math.min(99, ModelLaw.value(text, names)));
    }

    private int lie(One o, int fact, int size) {
        int due = price(o, fact, size);
        int off = 0;
        for (int t = size % 8, k = 0; k < 8; k++, t = t == 7 ? 0 : t + 1) {
            while (!o.capped[t] && o.flakes[t] > 0 && off < due) {
                o.flakes[t]--;
                off++;
            }
        }
        o.lies++;
        return off;
    }

    private static List<One> copy(List<One> from) {
        List<One> to = new ArrayList<>();
        for (One o : from) {
            to.add(o.copy());
        }
        return to;
    }

    private boolean is(int one) {
        return one >= 0 && one < people.size();
    }

    private static boolean in(int v, int least, int most) {
        return v >= least && v <= most;
    }

    int person(int flakes) {
        if (!in(flakes, 0, 9)) {
            return -1;
        }
        if (people.size() == 7) {
            return -3;
        }
        One o = new One();
        java.util.Arrays.fill(o.flakes, flakes);
        people.add(o);
        return people.size() - 1;
    }

    int people(int shelf, int i, int n) {
        if (!in(shelf, 0, 5) || !in(n, 1, 7)) {
            return -1;
        }
        if (held[shelf] == null) {
            return 0;
        }
        if (!(held[shelf] instanceof long[] row) || sorts[shelf] != 0) {
            return -12;
        }
        if (i < 0) {
            return 0;
        }
        for (int k = 0; k < n; k++) {
            long at = i + 9L * k;
            if (people.size() == 7 || at + 9 > row.length) {
                return k;
            }
            One o = new One();
            o.bits((int) (row[(int) at] & 255));
            for (int t = 0; t < 8; t++) {
                long f = row[(int) at + 1 + t];
                if (f < 0 || f > 9) {
                    return k;
                }
                o.flakes[t] = (int) f;
            }
            people.add(o);
        }
        return n;
    }

    private void make(int number, int what, int v) {
        if (what < 8) {
            people.get(number).flakes[what] = v;
        } else if (what == 8) {
            people.get(number).bits(v);
        } else if (what == 9) {
            so[number] = v;
        } else {
            gold = v;
        }
    }

    int mend(int number, int what, int v) {
        if (!in(what, 0, 10) || !in(v, 0, what == 8 ? 255 : what == 9 ? 1 : 9)) {
            return -1;
        }
        int was = of(number, what);
        if (was == -1 || was == v) {
            return was;
        }
        make(number, what, v);
        redoable.clear();
        undoable.add(new Change(number, what, was, v));
        if (undoable.size() > 40) {
            undoable.remove(0);
        }
        return was;
    }

    int of(int number, int what) {
        if (what == 9) {
            return in(number, 0, 9) ? so[number] : -1;
        }
        if (what == 10) {
            return number == 0 ? gold : -1;
        }
        if (!is(number) || !in(what, 0, 12)) {
            return -1;
        }
        One o = people.get(number);
        return what < 8 ? o.flakes[what] : what == 8 ? o.bits() : what == 11 ? worth(o) : o.lies;
    }

    int feed(int letter) {
        if (!in(letter, 0, 255)) {
            return -1;
        }
        if (tape.length() == 120) {
            return -3;
        }
        tape += (char) letter;
        return tape.length();
    }

    int law() {
        String t = tape;
        tape = "";
        int fault = ModelLaw.fault(t);
        if (fault >= 0) {
            return -100 - fault;
        }
        text = t;
        return 1;
    }

    int takes(int one, int fz) {
        return is(one) && in(fz, 0, 99) ? price(people.get(one), fz / 10, fz % 10) : -1;
    }

    // ---- trials

    private final class Trial {
        List<Saying> sayings = new ArrayList<>();
        List<One> then = copy(people);
        int[][] last = new int[7][10];
        int liars;
        int heard;
        int gone = -2;

        Trial(long[] row) {
            for (int at = 0; at + 4 <= row.length; at += 4) {
                boolean well = row[at] >= 0 && row[at] < people.size() && row[at + 1] >= 0 && row[at + 1] <= 9;
                if (!well || row[at + 2] < 0 || row[at + 2] > 1 || row[at + 3] < 0 || row[at + 3] > 9) {
                    break;
                }
                sayings.add(new Saying((int) row[at], (int) row[at + 1], (int) row[at + 2], (int) row[at + 3]));
            }
        }

        Trial held(int[] is, int turned) {
            for (int i = 0; i < sayings.size(); i++) {
                Saying s = sayings.get(i);
                say(new Saying(s.one, s.fact, (turned & 1 << i) != 0 ? 1 - s.said : s.said, s.size), is);
                if (gone == -2 && then.get(s.one).isGone()) {
                    gone = i;
                }
            }
            return this;
        }

        int say(Saying s, int[] is) {
            last[s.one][s.fact] = s.said == 1 ? 1 : -1;
            heard |= 1 << s.fact;
            if (is[s.fact] == s.said) {
                return 0;
            }
            liars |= 1 << s.one;
            return lie(then.get(s.one), s.fact, s.size);
        }

        int belief(int fact) {
            int yes = 0;
            int no = 0;
            for (int p = 0; p < then.size(); p++) {
                yes += last[p][fact] == 1 ? worth(then.get(p)) : 0;
                no += last[p][fact] == -1 ? worth(then.get(p)) : 0;
            }
            return yes > no ? 1 : no > yes ? 0 : -2;
        }
    }

    private int refused(int shelf) {
        if (held[shelf] == null) {
            return -11;
        }
        return held[shelf] instanceof long[] && sorts[shelf] == 0 ? 0 : -12;
    }

    private Trial trial(int shelf) {
        return new Trial((long[]) held[shelf]);
    }

    int trial(int shelf, int one, int what) {
        if (!in(shelf, 0, 5) || one != -1 && !is(one) || !in(what, 0, 1)) {
            return -1;
        }
        if (refused(shelf) != 0) {
            return refused(shelf);
        }
        Trial t = trial(shelf).held(so, 0);
        return one == -1 ? t.sayings.size() : what == 0 ? worth(t.then.get(one)) : t.then.get(one).lies;
    }

    int tooth(int shelf, int ot) {
        if (!in(shelf, 0, 5) || ot < 0 || !is(ot / 10) || ot % 10 > 7) {
            return -1;
        }
        return refused(shelf) != 0 ? refused(shelf) : trial(shelf).held(so, 0).then.get(ot / 10).flakes[ot % 10];
    }

    int gone(int shelf) {
        if (!in(shelf, 0, 5)) {
            return -1;
        }
        return refused(shelf) != 0 ? refused(shelf) : trial(shelf).held(so, 0).gone;
    }

    int believed(int shelf, int fact) {
        if (!in(shelf, 0, 5) || !in(fact, 0, 9)) {
            return -1;
        }
        return refused(shelf) != 0 ? refused(shelf) : trial(shelf).held(so, 0).belief(fact);
    }

    int told(int shelf, int what) {
        if (!in(shelf, 0, 5) || !in(what, 0, 3)) {
            return -1;
        }
        if (refused(shelf) != 0) {
            return refused(shelf);
        }
        Trial t = trial(shelf).held(so, 0);
        int wrong = 0;
        for (int f = 0; f < 10; f++) {
            wrong += t.belief(f) >= 0 && t.belief(f) != so[f] ? 1 : 0;
        }
        int honest = 0;
        for (int p = 0; p < people.size(); p++) {
            honest += worth(t.then.get(p)) == worth(people.get(p)) ? 1 << p : 0;
        }
        return what == 0 ? wrong : what == 1 ? t.liars : what == 2 ? 1023 - t.heard : honest;
    }

    int have(int shelf, int fv, int what) {
        if (!in(shelf, 0, 5) || !in(fv, 0, 91) || fv % 10 > 1 || !in(what, 0, 2)) {
            return -1;
        }
        if (refused(shelf) != 0) {
            return refused(shelf);
        }
        if (trial(shelf).held(so, 0).belief(fv / 10) == fv % 10) {
            return what == 0 ? 0 : -2;
        }
        int[] best = null;
        for (int p = 0; p < people.size(); p++) {
            for (int z = 0; z < 10; z++) {
                Trial t = trial(shelf).held(so, 0);
                int off = t.say(new Saying(p, fv / 10, fv % 10, z), so);
                if (t.belief(fv / 10) == fv % 10 && (best == null || off < best[0])) {
                    best = new int[] {off, p, z};
                }
            }
        }
        return best == null ? -2 : best[what];
    }

    int left(int one, int size) {
        if (!is(one) || !in(size, 0, 9)) {
            return -1;
        }
        One o = people.get(one).copy();
        int n = 0;
        while (!o.isGone()) {
            if (n == 99) {
                return -2;
            }
            lie(o, 0, size);
            n++;
        }
        return n;
    }

    int enough(int x, int what) {
        if (!in(x, 0, 999) || !in(what, 0, 1)) {
            return -1;
        }
        for (int n = 0; n <= people.size(); n++) {
            for (int who = 0; who < 1 << people.size(); who++) {
                int sum = 0;
                for (int p = 0; p < people.size(); p++) {
                    sum += (who & 1 << p) != 0 ? worth(people.get(p)) : 0;
                }
                if (Integer.bitCount(who) == n && sum >= x) {
                    return what == 0 ? n : who;
                }
            }
        }
        return -2;
    }

    int jury(int pqr) {
        if (!in(pqr, 0, 999)) {
            return -1;
        }
        List<Integer> asked = new ArrayList<>(List.of(pqr / 100, pqr / 10 % 10, pqr % 10));
        for (int p : asked) {
            if (!is(p) || asked.indexOf(p) != asked.lastIndexOf(p)) {
                return -1;
            }
        }
        asked.sort((a, b) -> worth(people.get(a)) * 10 + a - worth(people.get(b)) * 10 - b);
        return asked.get(1);
    }

    int bribe(int shelf, int fv, int what) {
        if (!in(shelf, 0, 5) || !in(fv, 0, 91) || fv % 10 > 1 || !in(what, 0, 1)) {
            return -1;
        }
        if (refused(shelf) != 0) {
            return refused(shelf);
        }
        int many = trial(shelf).sayings.size();
        if (many > 10) {
            return -5;
        }
        for (int n = 0; n <= many; n++) {
            for (int turned = 0; turned < 1 << many; turned++) {
                if (Integer.bitCount(turned) == n && trial(shelf).held(so, turned).belief(fv / 10) == fv % 10) {
                    return what == 0 ? n : turned;
                }
            }
        }
        return -2;
    }

    // ---- mirrors, draws

    private int noMirror(int shelf) {
        int r = refused(shelf);
        return r == 0 && ((long[]) held[shelf]).length != 8 ? -2 : r;
    }

    private boolean seen(One o, int shelf) {
        long[] row = (long[]) held[shelf];
        for (int t = 0; t < 8; t++) {
            if (o.flakes[t] != row[t]) {
                return false;
            }
        }
        return true;
    }

    int liesFor(int shelf, int one, int size) {
        if (!in(shelf, 0, 5) || !is(one) || !in(size, 0, 9)) {
            return -1;
        }
        if (noMirror(shelf) != 0) {
            return noMirror(shelf);
        }
        for (int n = 0; n <= 99; n++) {
            One o = people.get(one).copy();
            for (int i = 0; i < n; i++) {
                lie(o, 0, size);
            }
            if (seen(o, shelf)) {
                return n;
            }
        }
        return -2;
    }

    int two(int shelf, int one, int what) {
        if (!in(shelf, 0, 5) || !is(one) || !in(what, 0, 1)) {
            return -1;
        }
        if (noMirror(shelf) != 0) {
            return noMirror(shelf);
        }
        List<Integer> pairs = new ArrayList<>();
        for (int y = 0; y < 10; y++) {
            for (int z = 0; z < 10; z++) {
                One o = people.get(one).copy();
                lie(o, 0, y);
                lie(o, 0, z);
                if (seen(o, shelf)) {
                    pairs.add(10 * y + z);
                }
            }
        }
        return what == 0 ? pairs.size() : pairs.isEmpty() ? -2 : pairs.get(0);
    }

    int others(int shelf) {
        if (!in(shelf, 0, 5)) {
            return -1;
        }
        if (noMirror(shelf) != 0) {
            return noMirror(shelf);
        }
        int who = 0;
        for (int p = 0; p < people.size(); p++) {
            who += seen(people.get(p), shelf) ? 1 << p : 0;
        }
        return who;
    }

    int isSo(int tm, int on, int what) {
        if (!in(tm, 0, 55) || tm % 10 > 5 || on < 0 || !is(on / 10) || !in(on % 10, 1, 8) || !in(what, 0, 2)) {
            return -1;
        }
        if (held[tm / 10] == null || held[tm % 10] == null) {
            return -11;
        }
        if (refused(tm / 10) != 0 || refused(tm % 10) != 0) {
            return -12;
        }
        if (noMirror(tm % 10) != 0) {
            return -2;
        }
        List<Integer> ways = new ArrayList<>();
        int sure = -1;
        for (int way = 0; way < 1 << on % 10; way++) {
            int[] is = so.clone();
            for (int f = 0; f < on % 10; f++) {
                is[f] = way >> f & 1;
            }
            if (seen(trial(tm / 10).held(is, 0).then.get(on / 10), tm % 10)) {
                ways.add(way);
                sure &= way;
            }
        }
        if (what == 0) {
            return ways.size();
        }
        return ways.isEmpty() ? -2 : what == 1 ? ways.get(0) : sure;
    }

    int drawn(int seed, int nm, int what) {
        if (!in(nm / 100, 1, 30) || !in(nm % 100, 1, 60) || !in(what, 0, 1)) {
            return -1;
        }
        if (people.isEmpty()) {
            return 0;
        }
        int lies = 0;
        int flakes = 0;
        int z = seed;
        for (int d = 0; d < nm / 100; d++) {
            List<One> all = copy(people);
            for (int i = 0; i < nm % 100; i++) {
                z = z * 1103515245 + 12345;
                int fact = (z >>> 12) % 10;
                if (so[fact] != (z >>> 18) % 2) {
                    lies++;
                    lie(all.get((z >>> 4) % all.size()), fact, (z >>> 22) % 10);
                }
            }
            for (One o : all) {
                flakes += o.sum();
            }
        }
        return what == 0 ? lies : flakes;
    }

    // ---- in deed

    int say(int one, int fvz) {
        if (!is(one) || !in(fvz, 0, 919) || fvz / 10 % 10 > 1) {
            return -1;
        }
        led[0]++;
        if (so[fvz / 100] == fvz / 10 % 10) {
            return 0;
        }
        int off = lie(people.get(one), fvz / 100, fvz % 10);
        led[1]++;
        led[2] += off;
        return off;
    }

    int lend(int ab, int tooth) {
        if (ab < 0 || !is(ab / 10) || !is(ab % 10) || ab / 10 == ab % 10 || !in(tooth, 0, 7)) {
            return -1;
        }
        One a = people.get(ab / 10);
        One b = people.get(ab % 10);
        int f = a.flakes[tooth];
        boolean c = a.capped[tooth];
        a.flakes[tooth] = b.flakes[tooth];
        a.capped[tooth] = b.capped[tooth];
        b.flakes[tooth] = f;
        b.capped[tooth] = c;
        led[3]++;
        return a.flakes[tooth];
    }

    int cap(int one, int tooth) {
        if (!is(one) || !in(tooth, 0, 7)) {
            return -1;
        }
        if (people.get(one).capped[tooth]) {
            return -5;
        }
        people.get(one).capped[tooth] = true;
        led[4]++;
        return Integer.bitCount(people.get(one).bits());
    }

    int year() {
        int lies = 0;
        for (One o : people) {
            lies += o.lies;
            o.lies = 0;
        }
        led[5]++;
        return lies;
    }

    int led(int what) {
        return in(what, 0, 5) ? led[what] : -1;
    }

    int image() {
        picture = copy(people);
        pictureLed = led.clone();
        return led[0];
    }

    int back() {
        if (picture == null) {
            return -5;
        }
        List<One> laid = copy(picture);
        for (int p = laid.size(); p < people.size(); p++) {
            people.get(p).lies = 0;
            laid.add(people.get(p));
        }
        people = laid;
        led = pictureLed.clone();
        return led[0];
    }

    int undo() {
        if (undoable.isEmpty()) {
            return -5;
        }
        Change c = undoable.remove(undoable.size() - 1);
        redoable.add(c);
        make(c.number, c.what, c.before);
        return undoable.size();
    }

    int redo() {
        if (redoable.isEmpty()) {
            return -5;
        }
        Change c = redoable.remove(redoable.size() - 1);
        undoable.add(c);
        make(c.number, c.what, c.after);
        return redoable.size();
    }

    // ---- acts, shelves

    int body(int kind) {
        if (!in(kind, 0, 7)) {
            return -1;
        }
        if (bodies.size() == 50) {
            return -3;
        }
        bodies.add(ModelBody.of(kind, bodies.size()));
        return bodies.size() - 1;
    }

    int act(int body, int act, int x) {
        trace = new ArrayList<>();
        if (!in(body, 0, bodies.size() - 1) || !in(act, 0, 3)) {
            return 0;
        }
        ModelBody b = bodies.get(body);
        b.trace = trace;
        return act == 0 ? b.bites(x) : act == 1 ? b.lies(x) : act == 2 ? b.grins(x) : b.tells(x);
    }

    int trace(int i) {
        return in(i, 0, Math.min(24, trace.size()) - 1) ? trace.get(i) : -1;
    }

    int keep(int shelf, int body) {
        if (!in(shelf, 0, 5) || !in(body, -1, bodies.size() - 1)) {
            return -1;
        }
        held[shelf] = body == -1 ? null : bodies.get(body);
        return 1;
    }

    int row(int shelf, int sort, int n) {
        if (!in(shelf, 0, 5) || !in(sort, 0, 4) || n > 60) {
            return -1;
        }
        if (n < 0) {
            return -14;
        }
        held[shelf] = new long[n];
        sorts[shelf] = sort;
        return 1;
    }

    private int refusedPlace(int shelf, int i) {
        if (!in(shelf, 0, 5)) {
            return -1;
        }
        if (held[shelf] == null) {
            return -11;
        }
        if (!(held[shelf] instanceof long[] row)) {
            return -12;
        }
        return in(i, 0, row.length - 1) ? 0 : -13;
    }

    int put(int shelf, int i, long v) {
        if (refusedPlace(shelf, i) != 0) {
            return refusedPlace(shelf, i);
        }
        int sort = sorts[shelf];
        int gap = sort == 0 ? 56 : sort == 1 ? 48 : sort == 2 ? 32 : 0;
        ((long[]) held[shelf])[i] = sort == 4 ? (v == 0 ? 0 : 1) : v << gap >> gap;
        return 1;
    }

    long element(int shelf, int i) {
        return refusedPlace(shelf, i) != 0 ? Long.MIN_VALUE : ((long[]) held[shelf])[i];
    }

    int shift(int shelf, int i, int other, int j, int n) {
        if (!in(shelf, 0, 5) || !in(other, 0, 5)) {
            return -1;
        }
        if (held[shelf] == null || held[other] == null) {
            return -11;
        }
        if (!(held[shelf] instanceof long[] a) || !(held[other] instanceof long[] b) || sorts[shelf] != sorts[other]) {
            return -12;
        }
        if (n < 0 || i < 0 || j < 0 || (long) i + n > a.length || (long) j + n > b.length) {
            return -13;
        }
        long[] before = a.clone();
        for (int k = 0; k < n; k++) {
            b[j + k] = before[i + k];
        }
        return n;
    }

    int taken(int shelf, int k) {
        if (!in(shelf, 0, 5) || !in(k, 0, 7)) {
            return -1;
        }
        if (held[shelf] == null) {
            return -11;
        }
        return held[shelf] instanceof ModelBody b && ModelBody.of(k, 0).getClass().isInstance(b) ? b.kind : -12;
    }

    int count(int what) {
        return switch (what) {
            case 0 -> people.size();
            case 1 -> (int) people.stream().filter(One::isGone).count();
            case 2 -> tape.length();
            case 3 -> undoable.size();
            case 4 -> bodies.size();
            case 5 -> trace.size();
            default -> -1;
        };
    }
}
