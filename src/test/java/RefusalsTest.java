import java.util.function.Supplier;
import java.util.function.ToLongFunction;

/** Every refused call of promises 2 to 42, and every call in thought: what it answers, and that it changed nothing. */
public final class RefusalsTest {
    private static final Due DUE = new Due("RefusalsTest");
    private static final int MIN = Integer.MIN_VALUE;
    private static final int MAX = Integer.MAX_VALUE;
    private static final int NOTHING = 0, BODY = 1, SHORTS = 2, TRIAL = 3, MIRROR = 4, MANY = 5;

    public static void main(String[] args) {
        theLookSees();
        peopleAndFacts();
        full();
        theTape();
        trials();
        trialsThatAreNone();
        needs();
        mirrors();
        whatIsSo();
        draws();
        deeds();
        changes();
        bodies();
        shelves();
        shifts();
        inThought();
        DUE.end();
    }

    /** A court with something of everything: undone changes, an image of before, a tape, a trace, shelves of all kinds. */
    private static SkinOfTeeth court() {
        SkinOfTeeth x = new SkinOfTeeth();
        x.person(4);
        x.person(2);
        x.person(9);
        x.mend(0, 8, 5);
        x.mend(3, 9, 1);
        x.mend(1, 2, 0);
        x.mend(0, 10, 4);
        Due.law(x, "z+l;f");
        x.say(1, 13);
        x.say(2, 300);
        x.image();
        x.say(0, 16);
        x.lend(12, 3);
        x.cap(2, 6);
        x.mend(2, 1, 7);
        x.mend(2, 1, 6);
        x.undo();
        x.undo();
        x.feed('7');
        x.feed('+');
        x.feed('1');
        x.body(5);
        x.body(0);
        x.act(0, 3, 7);
        shelvesOf(x);
        return x;
    }

    private static void shelvesOf(SkinOfTeeth x) {
        x.keep(BODY, 0);
        x.row(SHORTS, 1, 3);
        x.put(SHORTS, 1, -7);
        Due.bytes(x, TRIAL, 0, 0, 1, 2, 1, 3, 0, 4, 2, 9, 1);
        Due.bytes(x, MIRROR, 2, 2, 0, 9, 1, 2, 2, 2);
        x.row(MANY, 0, 44);
    }

    private static void none(String call, long want, ToLongFunction<SkinOfTeeth> made) {
        Look.changesNothing(DUE, RefusalsTest::court, call, want, made);
    }

    private static void none(Supplier<SkinOfTeeth> court, String call, long want, ToLongFunction<SkinOfTeeth> made) {
        Look.changesNothing(DUE, court, call, want, made);
    }

    /** The look itself: each of these calls is seen by it. */
    private static void theLookSees() {
        DUE.is("nothing made, nothing seen", Look.at(court()).equals(Look.at(court())) ? 1 : 0, 1);
        seen("person(0)", x -> x.person(0));
        seen("mend(0, 0, 5)", x -> x.mend(0, 0, 5));
        seen("mend(0, 10, 5)", x -> x.mend(0, 10, 5));
        seen("mend(9, 9, 1)", x -> x.mend(9, 9, 1));
        seen("feed(0)", x -> x.feed(0));
        seen("law()", x -> x.law());
        seen("say(0, 0)", x -> x.say(0, 0));
        seen("lend(1, 0)", x -> x.lend(1, 0));
        seen("cap(0, 7)", x -> x.cap(0, 7));
        seen("year()", x -> x.year());
        seen("image()", x -> x.image());
        seen("back()", x -> x.back());
        seen("undo()", x -> x.undo());
        seen("redo()", x -> x.redo());
        seen("body(0)", x -> x.body(0));
        seen("act(0, 0, 0)", x -> x.act(0, 0, 0));
        seen("keep(NOTHING, 0)", x -> x.keep(NOTHING, 0));
        seen("keep(BODY, 1)", x -> x.keep(BODY, 1));
        seen("row(NOTHING, 0, 0)", x -> x.row(NOTHING, 0, 0));
        seen("row(SHORTS, 2, 3) + put(SHORTS, 1, -7)", x -> x.row(SHORTS, 2, 3) + x.put(SHORTS, 1, -7));
        seen("put(TRIAL, 0, 1)", x -> x.put(TRIAL, 0, 1));
        seen("shift(TRIAL, 2, TRIAL, 0, 1)", x -> x.shift(TRIAL, 2, TRIAL, 0, 1));
        seen("people(MANY, 0, 1)", x -> x.people(MANY, 0, 1));
    }

    private static void seen(String call, ToLongFunction<SkinOfTeeth> made) {
        SkinOfTeeth x = court();
        made.applyAsLong(x);
        DUE.is("the look sees " + call, Look.at(x).equals(Look.at(court())) ? 1 : 0, 0);
    }

    private static void peopleAndFacts() {
        for (int v : new int[] {-1, 10, MIN, MAX}) {
            none("2 person " + v, -1, x -> x.person(v));
            none("4 flakes " + v, -1, x -> x.mend(2, 7, v));
            none("4 gold " + v, -1, x -> x.mend(0, 10, v));
            none("4 fact number " + v, -1, x -> x.mend(v, 9, 1));
            none("5 fact number " + v, -1, x -> x.of(v, 9));
        }
        for (int v : new int[] {-1, 256, MIN, MAX}) {
            none("4 caps " + v, -1, x -> x.mend(2, 8, v));
        }
        for (int v : new int[] {-1, 2, MIN, MAX}) {
            none("4 so " + v, -1, x -> x.mend(9, 9, v));
        }
        for (int v : new int[] {-1, 3, 7, MIN, MAX}) {
            none("4 one " + v, -1, x -> x.mend(v, 0, 1));
            none("4 one " + v, -1, x -> x.mend(v, 8, 1));
            none("5 one " + v, -1, x -> x.of(v, 11));
            none("8 one " + v, -1, x -> x.takes(v, 0));
        }
        for (int v : new int[] {-1, 11, 12, MIN, MAX}) {
            none("4 what " + v, -1, x -> x.mend(0, v, 1));
        }
        for (int v : new int[] {-1, 1, MIN, MAX}) {
            none("4 gold of " + v, -1, x -> x.mend(v, 10, 1));
        }
        none("5 what -1", -1, x -> x.of(0, -1));
        none("5 what 13", -1, x -> x.of(0, 13));
        none("8 fz -1", -1, x -> x.takes(0, -1));
        none("8 fz 100", -1, x -> x.takes(0, 100));
        none("4 the same number", 6, x -> x.mend(0, 8, 5) + x.mend(3, 9, 1));
        people();
    }

    private static void people() {
        for (int v : new int[] {-1, 0, 8, MIN, MAX}) {
            none("3 n " + v, -1, x -> x.people(MANY, 0, v));
        }
        for (int v : new int[] {-1, 6, MIN, MAX}) {
            none("3 shelf " + v, -1, x -> x.people(v, 0, 1));
        }
        none("3 shorts", -12, x -> x.people(SHORTS, 0, 1));
        none("3 a body", -12, x -> x.people(BODY, 0, 1));
        none("3 nothing", 0, x -> x.people(NOTHING, 0, 1));
        none("3 i below 0", 0, x -> x.people(MANY, -1, 7));
        none("3 within a nine", 0, x -> x.people(MANY, 36, 7));
        none("3 too few", 0, x -> x.people(MIRROR, 0, 7));
        none("3 one not as it may be", 0, x -> {
            long came = x.put(MANY, 3, 10);
            came = came == 1 ? x.people(MANY, 0, 7) : -99;
            x.put(MANY, 3, 0);
            return came;
        });
    }

    private static void full() {
        Supplier<SkinOfTeeth> seven = () -> {
            SkinOfTeeth x = new SkinOfTeeth();
            for (int i = 0; i < 7; i++) {
                x.person(i);
            }
            x.row(0, 0, 9);
            return x;
        };
        none(seven, "2 FULL", -3, x -> x.person(9));
        none(seven, "2 BAD ahead of FULL", -1, x -> x.person(10));
        none(seven, "3 full", 0, x -> x.people(0, 0, 7));
        Supplier<SkinOfTeeth> fifty = () -> {
            SkinOfTeeth x = new SkinOfTeeth();
            for (int i = 0; i < 50; i++) {
                x.body(i % 8);
            }
            x.keep(0, 49);
            x.act(49, 3, 1);
            return x;
        };
        none(fifty, "33 FULL", -3, x -> x.body(0));
        none(fifty, "33 BAD ahead of FULL", -1, x -> x.body(8));
        none(fifty, "36 the fifty-first", -1, x -> x.keep(0, 50));
    }

    private static void theTape() {
        for (int v : new int[] {-1, 256, MIN, MAX}) {
            none("6 feed " + v, -1, x -> x.feed(v));
        }
        Supplier<SkinOfTeeth> whole = () -> {
            SkinOfTeeth x = new SkinOfTeeth();
            x.person(9);
            for (int i = 0; i < 120; i++) {
                x.feed(i % 2 == 0 ? '1' : i < 118 ? '+' : '2');
            }
            return x;
        };
        none(whole, "6 FULL", -3, x -> x.feed('1'));
        none(whole, "6 FULL", -3, x -> x.feed(0));
        none(whole, "6 BAD ahead of FULL", -1, x -> x.feed(256));
        SkinOfTeeth x = whole.get();
        x.feed('x');
        DUE.is("6 the whole tape is a law all the same", x.law(), 1);
        DUE.is("6 fifty-nine ones and twelve", x.takes(0, 0), 71);
        Supplier<SkinOfTeeth> empty = () -> {
            SkinOfTeeth y = court();
            y.law();
            return y;
        };
        none(empty, "7 an empty tape", -100, y -> y.law());
        none(empty, "7 a faulty tape, fed first", -102 + 6, y -> y.feed('1') + y.feed('2') + y.feed('x') + y.law());
        none(empty, "7 a tape that ends too early, fed first", -102 + 3, y -> y.feed('1') + y.feed('*') + y.law());
    }

    private static void trials() {
        for (int v : new int[] {-2, 3, MIN, MAX}) {
            none("9 one " + v, -1, x -> x.trial(TRIAL, v, 0));
        }
        for (int v : new int[] {-1, 2, MIN, MAX}) {
            none("9 what " + v, -1, x -> x.trial(TRIAL, 0, v));
        }
        for (int v : new int[] {-1, 8, 30, MIN, MAX}) {
            none("10 ot " + v, -1, x -> x.tooth(TRIAL, v));
        }
        for (int v : new int[] {-1, 10, MIN, MAX}) {
            none("12 fact " + v, -1, x -> x.believed(TRIAL, v));
        }
        for (int v : new int[] {-1, 4, MIN, MAX}) {
            none("13 what " + v, -1, x -> x.told(TRIAL, v));
        }
        for (int v : new int[] {-1, 2, 92, 100, MIN, MAX}) {
            none("14 fv " + v, -1, x -> x.have(TRIAL, v, 0));
            none("18 fv " + v, -1, x -> x.bribe(TRIAL, v, 0));
        }
        none("14 what -1", -1, x -> x.have(TRIAL, 0, -1));
        none("14 what 3", -1, x -> x.have(TRIAL, 0, 3));
        none("18 what -1", -1, x -> x.bribe(TRIAL, 0, -1));
        none("18 what 2", -1, x -> x.bribe(TRIAL, 0, 2));
        none("18 STATE", -5, x -> x.bribe(MANY, 0, 0));
        none("18 STATE ahead of NOT", -5, x -> x.bribe(MANY, 91, 1));
        none("18 NOT", -2, x -> x.bribe(TRIAL, 80, 0));
        none("18 NOT", -2, x -> x.bribe(TRIAL, 80, 1));
        none("11 NOT", -2, x -> x.gone(TRIAL));
        none("12 NOT", -2, x -> x.believed(TRIAL, 9));
    }

    private static void trialsThatAreNone() {
        int[] shelves = {-1, 6, NOTHING, BODY, SHORTS};
        int[] due = {-1, -1, -11, -12, -12};
        for (int i = 0; i < shelves.length; i++) {
            int shelf = shelves[i];
            none("9 shelf " + shelf, due[i], x -> x.trial(shelf, -1, 0));
            none("10 shelf " + shelf, due[i], x -> x.tooth(shelf, 0));
            none("11 shelf " + shelf, due[i], x -> x.gone(shelf));
            none("12 shelf " + shelf, due[i], x -> x.believed(shelf, 0));
            none("13 shelf " + shelf, due[i], x -> x.told(shelf, 0));
            none("14 shelf " + shelf, due[i], x -> x.have(shelf, 0, 0));
            none("18 shelf " + shelf, due[i], x -> x.bribe(shelf, 0, 0));
            none("19 shelf " + shelf, due[i], x -> x.liesFor(shelf, 0, 0));
            none("20 shelf " + shelf, due[i], x -> x.two(shelf, 0, 0));
            none("21 shelf " + shelf, due[i], x -> x.others(shelf));
            none("9 BAD ahead of it " + shelf, -1, x -> x.trial(shelf, 3, 0));
            none("10 BAD ahead of it " + shelf, -1, x -> x.tooth(shelf, 8));
            none("12 BAD ahead of it " + shelf, -1, x -> x.believed(shelf, 10));
            none("13 BAD ahead of it " + shelf, -1, x -> x.told(shelf, 4));
            none("14 BAD ahead of it " + shelf, -1, x -> x.have(shelf, 2, 0));
            none("18 BAD ahead of it " + shelf, -1, x -> x.bribe(shelf, 2, 0));
            none("19 BAD ahead of it " + shelf, -1, x -> x.liesFor(shelf, 0, 10));
            none("20 BAD ahead of it " + shelf, -1, x -> x.two(shelf, 3, 0));
        }
    }

    private static void needs() {
        for (int v : new int[] {-1, 3, MIN, MAX}) {
            none("15 one " + v, -1, x -> x.left(v, 0));
        }
        for (int v : new int[] {-1, 10, MIN, MAX}) {
            none("15 size " + v, -1, x -> x.left(0, v));
        }
        none("15 NOT", -2, x -> x.left(0, 0));
        for (int v : new int[] {-1, 1000, MIN, MAX}) {
            none("16 x " + v, -1, x -> x.enough(v, 0));
        }
        none("16 what -1", -1, x -> x.enough(0, -1));
        none("16 what 2", -1, x -> x.enough(0, 2));
        none("16 NOT", -2, x -> x.enough(999, 0));
        none("16 NOT", -2, x -> x.enough(999, 1));
        for (int v : new int[] {-1, -12, 0, 1, 11, 101, 110, 13, 301, 999, 1000, 1012, MIN, MAX}) {
            none("17 pqr " + v, -1, x -> x.jury(v));
        }
        Supplier<SkinOfTeeth> nobody = SkinOfTeeth::new;
        none(nobody, "15 nobody", -1, x -> x.left(0, 0));
        none(nobody, "16 nobody", -2, x -> x.enough(1, 1));
        none(nobody, "17 nobody", -1, x -> x.jury(12));
    }

    private static void mirrors() {
        for (int v : new int[] {-1, 3, MIN, MAX}) {
            none("19 one " + v, -1, x -> x.liesFor(MIRROR, v, 0));
            none("20 one " + v, -1, x -> x.two(MIRROR, v, 0));
        }
        for (int v : new int[] {-1, 10, MIN, MAX}) {
            none("19 size " + v, -1, x -> x.liesFor(MIRROR, 0, v));
        }
        none("20 what -1", -1, x -> x.two(MIRROR, 0, -1));
        none("20 what 2", -1, x -> x.two(MIRROR, 0, 2));
        none("19 no mirror", -2, x -> x.liesFor(TRIAL, 0, 0));
        none("20 no mirror", -2, x -> x.two(TRIAL, 0, 0));
        none("20 no mirror", -2, x -> x.two(TRIAL, 0, 1));
        none("21 no mirror", -2, x -> x.others(TRIAL));
        none("19 NOT", -2, x -> x.liesFor(MIRROR, 2, 9));
        none("20 NOT", -2, x -> x.two(MIRROR, 2, 1));
        none("20 none", 0, x -> x.two(MIRROR, 2, 0));
    }

    private static void whatIsSo() {
        int tm = 10 * TRIAL + MIRROR;
        for (int v : new int[] {-1, 6, 10 * TRIAL + 6, 60, 10 * 6 + MIRROR, MIN, MAX}) {
            none("22 tm " + v, -1, x -> x.isSo(v, 1, 0));
        }
        for (int v : new int[] {-1, 0, 9, 10, 19, 30, 31, MIN, MAX}) {
            none("22 on " + v, -1, x -> x.isSo(tm, v, 0));
        }
        none("22 what -1", -1, x -> x.isSo(tm, 1, -1));
        none("22 what 3", -1, x -> x.isSo(tm, 1, 3));
        int[] shelves = {NOTHING, BODY, SHORTS};
        int[] due = {-11, -12, -12};
        for (int i = 0; i < 3; i++) {
            int shelf = shelves[i];
            none("22 no trial", due[i], x -> x.isSo(10 * shelf + MIRROR, 1, 0));
            none("22 no mirror's row", due[i], x -> x.isSo(10 * TRIAL + shelf, 1, 1));
            none("22 ahead of NOT", due[i], x -> x.isSo(10 * shelf + TRIAL, 1, 2));
            none("22 BAD ahead of it", -1, x -> x.isSo(10 * shelf + shelf, 0, 2));
        }
        none("22 -11 of either ahead of -12", -11, x -> x.isSo(10 * SHORTS + NOTHING, 1, 0));
        none("22 -11 of either ahead of -12", -11, x -> x.isSo(10 * NOTHING + BODY, 1, 0));
        for (int what = 0; what < 3; what++) {
            int w = what;
            none("22 no mirror", -2, x -> x.isSo(10 * TRIAL + MANY, 1, w));
            none("22 no way", w == 0 ? 0 : -2, x -> x.isSo(tm, 28, w));
        }
    }

    private static void draws() {
        for (int v : new int[] {-101, -1, 0, 1, 60, 99, 100, 161, 3000, 3061, 3101, 3160, MIN, MAX}) {
            none("23 nm " + v, -1, x -> x.drawn(1, v, 0));
            none(SkinOfTeeth::new, "23 nm " + v + ", nobody", -1, x -> x.drawn(1, v, 1));
        }
        none("23 what -1", -1, x -> x.drawn(1, 101, -1));
        none("23 what 2", -1, x -> x.drawn(1, 101, 2));
        none(SkinOfTeeth::new, "23 nobody", 0, x -> x.drawn(1, 3060, 0));
        none(SkinOfTeeth::new, "23 nobody", 0, x -> x.drawn(1, 3060, 1));
    }

    private static void deeds() {
        for (int v : new int[] {-1, 3, MIN, MAX}) {
            none("24 one " + v, -1, x -> x.say(v, 10));
            none("26 one " + v, -1, x -> x.cap(v, 7));
        }
        for (int v : new int[] {-1, 20, 99, 920, 999, 1000, 1010, MIN, MAX}) {
            none("24 fvz " + v, -1, x -> x.say(0, v));
        }
        for (int v : new int[] {-1, 0, 11, 22, 3, 30, 33, 101, MIN, MAX}) {
            none("25 ab " + v, -1, x -> x.lend(v, 0));
        }
        for (int v : new int[] {-1, 8, MIN, MAX}) {
            none("25 tooth " + v, -1, x -> x.lend(1, v));
            none("26 tooth " + v, -1, x -> x.cap(0, v));
        }
        none("26 STATE", -5, x -> x.cap(0, 0));
        none("26 STATE", -5, x -> x.cap(2, 6));
        none("28 led -1", -1, x -> x.led(-1));
        none("28 led 6", -1, x -> x.led(6));
        none(SkinOfTeeth::new, "24 nobody", -1, x -> x.say(0, 10));
        none(SkinOfTeeth::new, "25 nobody", -1, x -> x.lend(1, 0));
        none(SkinOfTeeth::new, "26 nobody", -1, x -> x.cap(0, 0));
    }

    private static void changes() {
        Supplier<SkinOfTeeth> deedsAlone = () -> {
            SkinOfTeeth x = new SkinOfTeeth();
            x.person(9);
            x.say(0, 10);
            x.cap(0, 1);
            x.year();
            return x;
        };
        none(deedsAlone, "30 STATE", -5, x -> x.back());
        none(deedsAlone, "31 STATE", -5, x -> x.undo());
        none(deedsAlone, "32 STATE", -5, x -> x.redo());
        Supplier<SkinOfTeeth> allUndone = () -> {
            SkinOfTeeth x = court();
            for (int i = 0; i < 4; i++) {
                x.undo();
            }
            return x;
        };
        none(allUndone, "31 STATE: all are undone", -5, x -> x.undo());
        Supplier<SkinOfTeeth> allDone = () -> {
            SkinOfTeeth x = court();
            x.redo();
            x.redo();
            return x;
        };
        none(allDone, "32 STATE: all are done again", -5, x -> x.redo());
        none("31 undone and done again", 5, x -> x.undo() + x.redo());
        none("4 the same number lets what is undone be", 2, x -> x.mend(1, 0, 2));
    }

    private static void bodies() {
        for (int v : new int[] {-1, 8, MIN, MAX}) {
            none("33 kind " + v, -1, x -> x.body(v));
            none("41 k " + v, -1, x -> x.taken(BODY, v));
        }
        for (int v : new int[] {-1, 10, 24, MIN, MAX}) {
            none("35 trace " + v, -1, x -> x.trace(v));
        }
        for (int v : new int[] {-2, 2, 50, MIN, MAX}) {
            none("36 body " + v, -1, x -> x.keep(NOTHING, v));
            none("36 body " + v, -1, x -> x.keep(TRIAL, v));
        }
        for (int v : new int[] {-1, 6, MIN, MAX}) {
            none("36 shelf " + v, -1, x -> x.keep(v, 0));
            none("36 shelf " + v, -1, x -> x.keep(v, -1));
            none("41 shelf " + v, -1, x -> x.taken(v, 0));
            none("42 count " + v, -1, x -> x.count(v));
        }
        none("41 nothing", -11, x -> x.taken(NOTHING, 0));
        none("41 a row", -12, x -> x.taken(TRIAL, 0));
        none("41 a body of another kind", -12, x -> x.taken(BODY, 1));
        Supplier<SkinOfTeeth> noTrace = () -> {
            SkinOfTeeth x = court();
            x.act(9, 9, 9);
            return x;
        };
        none(noTrace, "34 no such body: no trace, nothing else", 0, x -> x.act(2, 0, 5));
        none(noTrace, "34 no such body", 0, x -> x.act(-1, 0, 5));
        none(noTrace, "34 no such act", 0, x -> x.act(0, 4, 5));
        none(noTrace, "34 no such act", 0, x -> x.act(0, -1, 5));
        none(noTrace, "34 far beyond", 0, x -> x.act(MIN, MAX, 5));
        none(noTrace, "35 no trace", -1, x -> x.trace(0));
    }

    private static void shelves() {
        for (int shelf = 0; shelf < 6; shelf++) {
            int s = shelf;
            none("37 sort -1", -1, x -> x.row(s, -1, 1));
            none("37 sort 5", -1, x -> x.row(s, 5, 1));
            none("37 sort 5 ahead of -14", -1, x -> x.row(s, 5, -1));
            none("37 n 61", -1, x -> x.row(s, 0, 61));
            none("37 n far beyond", -1, x -> x.row(s, 0, MAX));
            none("37 n -1", -14, x -> x.row(s, 0, -1));
            none("37 n far below", -14, x -> x.row(s, 4, MIN));
        }
        for (int v : new int[] {-1, 6, MIN, MAX}) {
            none("37 shelf " + v, -1, x -> x.row(v, 0, 1));
            none("37 shelf " + v + " ahead of -14", -1, x -> x.row(v, 0, -1));
            none("38 shelf " + v, -1, x -> x.put(v, 0, 1));
            none("39 shelf " + v, Long.MIN_VALUE, x -> x.element(v, 0));
        }
        int[] holding = {NOTHING, BODY, SHORTS, MANY};
        int[] due = {-11, -12, -13, -13};
        for (int i = 0; i < 4; i++) {
            int s = holding[i];
            for (int at : new int[] {-1, 44, MIN, MAX}) {
                none("38 place " + at + " on " + s, due[i], x -> x.put(s, at, 9));
                none("39 place " + at + " on " + s, Long.MIN_VALUE, x -> x.element(s, at));
            }
        }
        none("38 just beyond", -13, x -> x.put(SHORTS, 3, 1));
        none("39 just beyond", Long.MIN_VALUE, x -> x.element(SHORTS, 3));
    }

    private static void shifts() {
        for (int v : new int[] {-1, 6, MIN, MAX}) {
            none("40 from " + v, -1, x -> x.shift(v, 0, TRIAL, 0, 1));
            none("40 to " + v, -1, x -> x.shift(TRIAL, 0, v, 0, 1));
            none("40 BAD ahead of -11", -1, x -> x.shift(NOTHING, 0, v, 0, 1));
        }
        for (int s : new int[] {NOTHING, BODY, SHORTS, TRIAL}) {
            none("40 -11 ahead of others", -11, x -> x.shift(s, 0, NOTHING, 0, -1));
            none("40 -11 ahead of others", -11, x -> x.shift(NOTHING, -1, s, 0, 1));
        }
        for (int s : new int[] {BODY, SHORTS}) {
            none("40 -12 ahead of -13", -12, x -> x.shift(s, 0, TRIAL, 0, -1));
            none("40 -12 ahead of -13", -12, x -> x.shift(TRIAL, 99, s, 0, 1));
        }
        none("40 a body to itself", -12, x -> x.shift(BODY, 0, BODY, 0, 0));
        int[][] places = {{0, 0, -1}, {-1, 0, 1}, {0, -1, 1}, {11, 0, 1}, {0, 44, 1}, {0, 0, 12}, {1, 0, 11}, {0, 34, 11},
            {12, 0, 0}, {0, 45, 0}, {MAX, 0, MAX}, {MIN, 0, MIN}, {0, MAX, 1}, {1, 1, MAX}};
        for (int[] p : places) {
            none("40 places " + p[0] + " " + p[1] + " " + p[2], -13, x -> x.shift(TRIAL, p[0], MANY, p[1], p[2]));
        }
        none("40 none", 0, x -> x.shift(TRIAL, 11, MANY, 44, 0));
        none("40 all in itself", 11, x -> x.shift(TRIAL, 0, TRIAL, 0, 11));
    }

    private static void inThought() {
        none("5 of", 3, x -> x.of(3, 9) + x.of(1, 0));
        none("8 takes", 10, x -> x.takes(0, 99));
        none("9 how many", 2, x -> x.trial(TRIAL, -1, 0));
        none("9 worth", 31, x -> x.trial(TRIAL, 0, 0));
        none("9 lies", 2, x -> x.trial(TRIAL, 0, 1));
        none("10 tooth", 9, x -> x.tooth(TRIAL, 20));
        none("12 believed", 1, x -> x.believed(TRIAL, 0));
        none("13 told", 3, x -> x.told(TRIAL, 1));
        none("14 have", 0, x -> x.have(TRIAL, 91, 2));
        none("14 still", 0, x -> x.have(TRIAL, 1, 0));
        none("15 left", 5, x -> x.left(1, 1));
        none("16 enough", 1, x -> x.enough(1, 1));
        none("17 jury", 0, x -> x.jury(12));
        none("18 bribe", 1, x -> x.bribe(TRIAL, 0, 0));
        none("19 liesFor", 0, x -> x.liesFor(MIRROR, 1, 3));
        none("20 two", 0, x -> x.two(MIRROR, 1, 0));
        none("21 others", 2, x -> x.others(MIRROR));
        none("22 isSo", 256, x -> x.isSo(10 * MANY + MIRROR, 18, 0));
        none("23 drawn", 0, x -> Math.min(0, x.drawn(7, 3060, 0)));
        none("23 drawn", 0, x -> Math.min(0, x.drawn(7, 3060, 1)));
        none("28 led", 3, x -> x.led(0));
        none("35 trace", 61, x -> x.trace(0));
        none("39 element", -7, x -> x.element(SHORTS, 1));
        none("41 taken", 5, x -> x.taken(BODY, 2));
        none("42 count", 3, x -> x.count(0));
    }
}
