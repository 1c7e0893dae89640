import java.util.Random;

/** Promises 1 to 42 by drawn runs of calls: the program and the model must answer alike. */
public final class ModelTest {
    private static final int RUNS = 1500;
    /** So many calls at most ahead of the last step, which may make 121: what an object answers behind 512 is free. */
    private static final int CALLS = 512 - 121;
    private static final int[] EDGES = {-1, 10, 100, 1000, 255, 256, 60, 61, Integer.MAX_VALUE, Integer.MIN_VALUE, -2, -11};
    private final Random random;
    private final Due due;
    private final SkinOfTeeth x = new SkinOfTeeth();
    private final Model m = new Model();

    private ModelTest(int run, Due due) {
        random = new Random(run);
        this.due = due;
    }

    public static void main(String[] args) {
        Due due = new Due("ModelTest");
        for (int run = 0; run < RUNS; run++) {
            new ModelTest(run, due).run(run);
        }
        due.end();
    }

    private void run(int run) {
        int people = Math.max(0, 1 + run % 7 - run % 3);
        for (int i = 0; i < people; i++) {
            person(1 + random.nextInt(9));
        }
        int calls = people;
        while (calls <= CALLS) {
            calls += step();
        }
    }

    private int to(int most) {
        return random.nextInt(40) == 0 ? EDGES[random.nextInt(EDGES.length)] : random.nextInt(most + 1);
    }

    private int one() {
        int people = m.count(0);
        return random.nextInt(30) == 0 || people == 0 ? to(7) : random.nextInt(people);
    }

    private int claim() {
        return 10 * to(9) + random.nextInt(2) + (random.nextInt(40) == 0 ? random.nextInt(10) : 0);
    }

    private void person(int flakes) {
        due.is("person " + flakes, x.person(flakes), m.person(flakes));
    }

    /** One kind of call or a row of them: how many. */
    private int step() {
        int kind = random.nextInt(32);
        if (kind == 0) {
            return lawFed();
        }
        if (kind == 1) {
            return rowFilled(random.nextInt(6));
        }
        if (kind == 2 && random.nextInt(3) == 0) {
            return triedInAMirror();
        }
        if (kind < 5) {
            mended();
        } else if (kind < 13) {
            triedTrials();
        } else if (kind < 18) {
            mirrored();
        } else if (kind < 25) {
            done();
        } else {
            shelved();
        }
        return 1;
    }

    private int lawFed() {
        String text = random.nextInt(3) == 0 ? LawTexts.anyBytes(random) : LawTexts.anyText(random);
        for (int i = 0; i < text.length(); i++) {
            due.is("feed", x.feed(text.charAt(i)), m.feed(text.charAt(i)));
        }
        due.is("law " + text, x.law(), m.law());
        return text.length() + 1;
    }

    private int rowFilled(int shelf) {
        int style = random.nextInt(4);
        int n = style == 0 ? 8 : style == 1 ? 9 * (1 + random.nextInt(6)) : 4 * (1 + random.nextInt(12));
        int sort = random.nextInt(20) == 0 ? random.nextInt(5) : 0;
        due.is("row", x.row(shelf, sort, n), m.row(shelf, sort, n));
        int whose = one();
        for (int i = 0; i < n; i++) {
            int v;
            if (style == 0) {
                v = Math.max(0, m.of(whose, i)) - (random.nextInt(6) == 0 ? 1 : 0);
            } else if (style == 1) {
                v = i % 9 == 0 ? random.nextInt(512) - 256 : to(9);
            } else {
                v = i % 4 == 0 ? one() : i % 4 == 1 ? random.nextInt(3) : i % 4 == 2 ? random.nextInt(2) : random.nextInt(10);
            }
            due.is("put", x.put(shelf, i, v), m.put(shelf, i, v));
        }
        return n + 1;
    }

    /** A mirror shows a mouth as it is behind a trial, or behind lies of one or two sizes. */
    private int triedInAMirror() {
        int trial = random.nextInt(6);
        int mirror = random.nextInt(6);
        int one = one();
        int before = rowFilled(trial);
        int[] seen = new int[8];
        for (int t = 0; t < 8; t++) {
            seen[t] = m.tooth(trial, 10 * one + t);
            due.is("tooth", x.tooth(trial, 10 * one + t), seen[t]);
        }
        due.is("row", x.row(mirror, 0, 8), m.row(mirror, 0, 8));
        for (int t = 0; t < 8; t++) {
            due.is("put", x.put(mirror, t, seen[t]), m.put(mirror, t, seen[t]));
        }
        int on = 10 * one + 1 + random.nextInt(4);
        for (int what = 0; what < 3; what++) {
            int tm = 10 * trial + mirror;
            due.is("isSo " + tm + " " + on + " " + what, x.isSo(tm, on, what), m.isSo(tm, on, what));
        }
        for (int what = 0; what < 2; what++) {
            due.is("two", x.two(mirror, one, what), m.two(mirror, one, what));
        }
        int size = random.nextInt(10);
        due.is("liesFor", x.liesFor(mirror, one, size), m.liesFor(mirror, one, size));
        due.is("others", x.others(mirror), m.others(mirror));
        return before + 8 + 9 + 3 + 2 + 2;
    }

    private void mended() {
        int what = to(12);
        int number = what == 9 ? to(9) : what == 10 ? to(1) : one();
        int v = what == 8 ? to(255) & (random.nextBoolean() ? 255 : 17) : what == 9 ? to(1) : to(9);
        if (random.nextInt(3) > 0) {
            due.is("mend", x.mend(number, what, v), m.mend(number, what, v));
        } else {
            due.is("of", x.of(number, what), m.of(number, what));
        }
    }

    private void triedTrials() {
        int shelf = to(5);
        int what = random.nextInt(3);
        switch (random.nextInt(11)) {
            case 0: {
                int one = random.nextInt(4) == 0 ? -1 : one();
                due.is("trial", x.trial(shelf, one, what), m.trial(shelf, one, what));
                break;
            }
            case 1: {
                int ot = 10 * one() + to(7);
                due.is("tooth", x.tooth(shelf, ot), m.tooth(shelf, ot));
                break;
            }
            case 2:
                due.is("gone", x.gone(shelf), m.gone(shelf));
                break;
            case 3: {
                int fact = to(random.nextBoolean() ? 2 : 9);
                due.is("believed", x.believed(shelf, fact), m.believed(shelf, fact));
                break;
            }
            case 4:
            case 5: {
                int w = to(3);
                due.is("told", x.told(shelf, w), m.told(shelf, w));
                break;
            }
            case 6: {
                int fv = claim() % 30;
                due.is("have " + fv + " " + what, x.have(shelf, fv, what), m.have(shelf, fv, what));
                break;
            }
            case 7: {
                int one = one();
                int size = to(9);
                due.is("left", x.left(one, size), m.left(one, size));
                break;
            }
            case 8: {
                int worth = to(random.nextBoolean() ? 200 : 600);
                due.is("enough", x.enough(worth, what), m.enough(worth, what));
                break;
            }
            case 9: {
                int pqr = 100 * one() + 10 * one() + one();
                due.is("jury", x.jury(pqr), m.jury(pqr));
                break;
            }
            default: {
                if (random.nextInt(4) == 0) {
                    int fv = claim() % 30;
                    due.is("bribe " + fv + " " + what, x.bribe(shelf, fv, what), m.bribe(shelf, fv, what));
                }
                break;
            }
        }
    }

    private void mirrored() {
        int shelf = to(5);
        int one = one();
        int what = random.nextInt(3);
        switch (random.nextInt(5)) {
            case 0: {
                int size = to(9);
                due.is("liesFor", x.liesFor(shelf, one, size), m.liesFor(shelf, one, size));
                break;
            }
            case 1:
                due.is("two", x.two(shelf, one, what), m.two(shelf, one, what));
                break;
            case 2:
                due.is("others", x.others(shelf), m.others(shelf));
                break;
            case 3: {
                int tm = 10 * to(5) + shelf;
                int on = 10 * one + 1 + random.nextInt(4);
                due.is("isSo " + tm + " " + on + " " + what, x.isSo(tm, on, what), m.isSo(tm, on, what));
                break;
            }
            default: {
                int seed = random.nextInt();
                int nm = 100 * to(5) + to(60);
                due.is("drawn " + seed + " " + nm, x.drawn(seed, nm, what), m.drawn(seed, nm, what));
                break;
            }
        }
    }

    private void done() {
        switch (random.nextInt(14)) {
            case 0, 1, 2: {
                int one = one();
                int fvz = 10 * claim() + to(9);
                due.is("say", x.say(one, fvz), m.say(one, fvz));
                break;
            }
            case 3: {
                int ab = 10 * one() + one();
                int t = to(7);
                due.is("lend", x.lend(ab, t), m.lend(ab, t));
                break;
            }
            case 4: {
                int one = one();
                int t = to(7);
                due.is("cap", x.cap(one, t), m.cap(one, t));
                break;
            }
            case 5:
                due.is("year", x.year(), m.year());
                break;
            case 6: {
                int w = to(5);
                due.is("led", x.led(w), m.led(w));
                break;
            }
            case 7:
                due.is("image", x.image(), m.image());
                break;
            case 8:
                due.is("back", x.back(), m.back());
                break;
            case 9, 10:
                due.is("undo", x.undo(), m.undo());
                break;
            case 11:
                due.is("redo", x.redo(), m.redo());
                break;
            case 12: {
                int one = one();
                int fz = to(99);
                due.is("takes", x.takes(one, fz), m.takes(one, fz));
                break;
            }
            default: {
                if (random.nextInt(8) == 0) {
                    person(to(9));
                } else {
                    int w = to(5);
                    due.is("count", x.count(w), m.count(w));
                }
                break;
            }
        }
    }

    private void shelved() {
        int shelf = to(5);
        int i = random.nextInt(14) == 0 ? to(60) : to(9);
        switch (random.nextInt(12)) {
            case 0: {
                int kind = to(7);
                due.is("body", x.body(kind), m.body(kind));
                break;
            }
            case 1, 2: {
                int body = to(Math.max(0, m.count(4)));
                int act = to(3);
                int v = random.nextInt(4) == 0 ? random.nextInt() : to(9);
                due.is("act", x.act(body, act, v), m.act(body, act, v));
                break;
            }
            case 3:
                due.is("trace", x.trace(i), m.trace(i));
                break;
            case 4: {
                if (random.nextInt(4) == 0) {
                    int body = to(3) - 1;
                    due.is("keep", x.keep(shelf, body), m.keep(shelf, body));
                }
                break;
            }
            case 5: {
                if (random.nextInt(4) == 0) {
                    int sort = to(4);
                    int n = to(60);
                    due.is("row", x.row(shelf, sort, n), m.row(shelf, sort, n));
                }
                break;
            }
            case 6: {
                long v = random.nextInt(3) == 0 ? random.nextLong() : to(9);
                due.is("put", x.put(shelf, i, v), m.put(shelf, i, v));
                break;
            }
            case 7, 8:
                due.is("element", x.element(shelf, i), m.element(shelf, i));
                break;
            case 9: {
                int other = to(5);
                int j = to(9);
                int n = to(5);
                due.is("shift", x.shift(shelf, i, other, j, n), m.shift(shelf, i, other, j, n));
                break;
            }
            case 10: {
                int k = to(7);
                due.is("taken", x.taken(shelf, k), m.taken(shelf, k));
                break;
            }
            default: {
                if (random.nextInt(4) == 0) {
                    int n = to(7);
                    due.is("people", x.people(shelf, i, n), m.people(shelf, i, n));
                }
                break;
            }
        }
    }
}
