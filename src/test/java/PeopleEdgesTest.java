import java.util.List;

/** Promises 1 to 6 and 8 at their edges: least, greatest, just beyond, none, full, of several answers the first. */
public final class PeopleEdgesTest {
    private static final Due DUE = new Due("PeopleEdgesTest");
    private static final int MIN = Integer.MIN_VALUE;
    private static final int MAX = Integer.MAX_VALUE;

    public static void main(String[] args) {
        promise1();
        promise1ObjectsShareNothing();
        promise2();
        promise2Full();
        promise3Numbers();
        promise3Places();
        promise3Kinds();
        promise3WhatMayBe();
        promise3Full();
        promise4Flakes();
        promise4Caps();
        promise4SoAndGold();
        promise4NoSuchNumber();
        promise5();
        promise6();
        promise6Full();
        promise8();
        promise8Now();
        DUE.end();
    }

    private static SkinOfTeeth court(int... flakes) {
        SkinOfTeeth x = new SkinOfTeeth();
        for (int f : flakes) {
            x.person(f);
        }
        return x;
    }

    private static void promise1() {
        SkinOfTeeth x = new SkinOfTeeth();
        for (int what = 0; what < 6; what++) {
            DUE.is("1 count " + what, x.count(what), 0);
            DUE.is("1 led " + what, x.led(what), 0);
            DUE.is("1 shelf " + what, x.taken(what, 0), -11);
        }
        for (int fact = 0; fact < 10; fact++) {
            DUE.is("1 nothing is so " + fact, x.of(fact, 9), 0);
        }
        DUE.is("1 gold", x.of(0, 10), 3);
        DUE.is("1 nobody is there", x.of(0, 0), -1);
        DUE.is("1 no trace", x.trace(0), -1);
        DUE.is("1 no image", x.back(), -5);
        DUE.is("1 nothing to undo", x.undo(), -5);
        DUE.is("1 nothing to do again", x.redo(), -5);
        DUE.is("1 nothing on the tape", x.law(), -100);
        x.person(9);
        DUE.is("1 no law as yet", x.takes(0, 9), 5);
    }

    private static void promise1ObjectsShareNothing() {
        List<Long> before = Look.at(new SkinOfTeeth());
        SkinOfTeeth x = court(9, 4);
        x.mend(0, 10, 9);
        x.mend(9, 9, 1);
        Due.law(x, "77");
        x.say(0, 913);
        x.image();
        x.cap(1, 1);
        x.year();
        x.feed(49);
        x.body(5);
        x.act(0, 3, 1);
        x.keep(0, 0);
        Due.bytes(x, 1, 1, 2, 3);
        DUE.is("1 a new one beside a used one", before.equals(Look.at(new SkinOfTeeth())) ? 1 : 0, 1);
        SkinOfTeeth y = court(9);
        DUE.is("1 a law is its own", y.takes(0, 9), 5);
        DUE.is("1 a mouth is its own", y.of(0, 11), 72);
    }

    private static void promise2() {
        for (int flakes = 0; flakes <= 9; flakes++) {
            SkinOfTeeth x = new SkinOfTeeth();
            DUE.is("2 person " + flakes, x.person(flakes), 0);
            for (int t = 0; t < 8; t++) {
                DUE.is("2 each tooth", x.of(0, t), flakes);
            }
            DUE.is("2 no caps", x.of(0, 8), 0);
            DUE.is("2 worth", x.of(0, 11), 8 * flakes);
            DUE.is("2 no lies", x.of(0, 12), 0);
            DUE.is("2 gone", x.count(1), flakes == 0 ? 1 : 0);
        }
        DUE.all("2 beyond", -1, () -> court().person(-1), () -> court().person(10), () -> court().person(MIN),
            () -> court().person(MAX));
        SkinOfTeeth x = court();
        x.person(10);
        DUE.is("2 one that is BAD takes no number", x.person(9), 0);
    }

    private static void promise2Full() {
        SkinOfTeeth x = new SkinOfTeeth();
        for (int i = 0; i < 7; i++) {
            DUE.is("2 the next number", x.person(i), i);
        }
        DUE.is("2 the eighth", x.person(9), -3);
        DUE.is("2 the eighth, of 0", x.person(0), -3);
        DUE.is("2 BAD ahead of FULL", x.person(10), -1);
        DUE.is("2 BAD ahead of FULL", x.person(-1), -1);
        DUE.is("2 still seven", x.count(0), 7);
        for (int i = 0; i < 7; i++) {
            DUE.is("2 as they were", x.of(i, 7), i);
        }
        DUE.is("2 there is no eighth", x.of(7, 0), -1);
    }

    /** A court whose shelf 0 holds so many bytes 0. */
    private static SkinOfTeeth zeros(int n) {
        SkinOfTeeth x = new SkinOfTeeth();
        x.row(0, 0, n);
        return x;
    }

    private static void promise3Numbers() {
        int[] came = {1, 2, 3, 4, 5, 6, 6};
        for (int n = 1; n <= 7; n++) {
            SkinOfTeeth x = zeros(60);
            DUE.is("3 n " + n + " of six nines", x.people(0, 0, n), came[n - 1]);
            DUE.is("3 so many are there", x.count(0), came[n - 1]);
        }
        for (int n : new int[] {0, -1, 8, MIN, MAX}) {
            DUE.is("3 n " + n, zeros(60).people(0, 0, n), -1);
            DUE.is("3 n " + n + " ahead of a missing row", zeros(60).people(1, 0, n), -1);
        }
        for (int shelf : new int[] {-1, 6, MIN, MAX}) {
            DUE.is("3 shelf " + shelf, zeros(60).people(shelf, 0, 1), -1);
        }
        SkinOfTeeth x = zeros(9);
        x.row(5, 0, 9);
        DUE.is("3 shelf 5, the last", x.people(5, 0, 1), 1);
        DUE.is("3 the next number", x.person(4), 1);
        DUE.is("3 the next number", x.people(0, 0, 1), 1);
        DUE.is("3 number 2", x.of(2, 0), 0);
    }

    private static void promise3Places() {
        int[][] placesAndCame = {{0, 2}, {1, 1}, {8, 1}, {9, 1}, {10, 0}, {17, 0}, {18, 0}, {19, 0}, {59, 0}, {60, 0},
            {-1, 0}, {-9, 0}, {MAX, 0}, {MAX - 8, 0}, {MIN, 0}};
        for (int[] p : placesAndCame) {
            SkinOfTeeth x = zeros(18);
            DUE.is("3 from " + p[0] + " on of two nines", x.people(0, p[0], 7), p[1]);
            DUE.is("3 so many are there", x.count(0), p[1]);
        }
        int[][] sizesAndCame = {{0, 0}, {1, 0}, {8, 0}, {9, 1}, {10, 1}, {17, 1}, {18, 2}, {53, 5}, {54, 6}, {60, 6}};
        for (int[] s : sizesAndCame) {
            DUE.is("3 of " + s[0] + " bytes", zeros(s[0]).people(0, 0, 7), s[1]);
        }
    }

    private static void promise3Kinds() {
        for (int sort = 1; sort <= 4; sort++) {
            SkinOfTeeth x = court();
            x.row(0, sort, 18);
            DUE.is("3 sort " + sort, x.people(0, 0, 1), -12);
            DUE.is("3 sort " + sort + ", a place that is not there", x.people(0, 60, 1), -12);
            DUE.is("3 BAD ahead of -12", x.people(0, 0, 8), -1);
            DUE.is("3 nobody came", x.count(0), 0);
        }
        SkinOfTeeth x = court();
        x.body(0);
        x.keep(0, 0);
        DUE.is("3 a body", x.people(0, 0, 1), -12);
        DUE.is("3 a shelf that holds nothing", x.people(1, 0, 1), 0);
        x.row(1, 0, 9);
        x.keep(1, -1);
        DUE.is("3 a shelf that holds nothing any more", x.people(1, 0, 1), 0);
    }

    private static void promise3WhatMayBe() {
        for (int at = 1; at <= 8; at++) {
            for (int v : new int[] {-1, 0, 9, 10, 127, -128}) {
                SkinOfTeeth x = zeros(9);
                x.put(0, at, v);
                boolean well = v == 0 || v == 9;
                DUE.is("3 flakes " + v + " at " + at, x.people(0, 0, 1), well ? 1 : 0);
                DUE.is("3 so it came", x.of(0, at - 1), well ? v : -1);
            }
        }
        for (int v = -128; v <= 127; v++) {
            SkinOfTeeth x = zeros(9);
            x.put(0, 0, v);
            DUE.is("3 caps of any byte", x.people(0, 0, 1), 1);
            DUE.is("3 caps are its bits", x.of(0, 8), v < 0 ? v + 256 : v);
        }
        for (int bad = 0; bad < 6; bad++) {
            SkinOfTeeth x = zeros(60);
            x.put(0, 9 * bad + 8, 10);
            DUE.is("3 the nine " + bad + " may not be so", x.people(0, 0, 7), bad);
            DUE.is("3 those ahead came", x.count(0), bad);
        }
    }

    private static void promise3Full() {
        for (int there = 0; there <= 7; there++) {
            SkinOfTeeth x = zeros(60);
            for (int i = 0; i < there; i++) {
                x.person(9);
            }
            DUE.is("3 till they are full", x.people(0, 0, 7), Math.min(6, 7 - there));
            DUE.is("3 the first of them", x.of(Math.min(there, 6), 0), there == 7 ? 9 : 0);
            DUE.is("3 lies of newcomers", x.of(Math.min(there, 6), 12), 0);
        }
        SkinOfTeeth x = court(1, 1, 1, 1, 1, 1, 1);
        x.row(0, 0, 9);
        x.row(1, 1, 9);
        DUE.is("3 full", x.people(0, 0, 1), 0);
        DUE.is("3 BAD ahead of full", x.people(0, 0, 8), -1);
        DUE.is("3 -12 where they are full", x.people(1, 0, 1), -12);
        DUE.is("3 still seven", x.count(0), 7);
        DUE.is("3 they are no changes", x.count(3), 0);
    }

    /** What mend() answers where v may be, and that v is there then; and BAD where it may not be. */
    private static void mended(int number, int what, int v, boolean well) {
        SkinOfTeeth x = court(4, 4, 4);
        int was = x.of(number, what);
        DUE.is("4 mend " + number + " " + what + " " + v, x.mend(number, what, v), well ? was : -1);
        DUE.is("4 it is then", x.of(number, what), well ? v : was);
        DUE.is("4 a change", x.count(3), well && v != was ? 1 : 0);
    }

    private static void promise4Flakes() {
        for (int t = 0; t < 8; t++) {
            for (int one : new int[] {0, 2}) {
                for (int v = 0; v <= 9; v++) {
                    mended(one, t, v, true);
                }
                for (int v : new int[] {-1, 10, MIN, MAX, 256, -4}) {
                    mended(one, t, v, false);
                }
            }
            for (int one : new int[] {-1, 3, 7, MIN, MAX}) {
                mended(one, t, 5, false);
            }
        }
        SkinOfTeeth x = court(4, 4);
        x.mend(1, 0, 9);
        DUE.is("4 the tooth ahead is another one's", x.of(0, 7), 4);
        DUE.is("4 the tooth behind", x.of(1, 1), 4);
    }

    private static void promise4Caps() {
        for (int one : new int[] {0, 2}) {
            for (int v : new int[] {0, 1, 128, 254, 255}) {
                mended(one, 8, v, true);
            }
            for (int v : new int[] {-1, 256, MIN, MAX, 511}) {
                mended(one, 8, v, false);
            }
        }
        for (int one : new int[] {-1, 3, 7, MIN, MAX}) {
            mended(one, 8, 1, false);
        }
    }

    private static void promise4SoAndGold() {
        for (int fact = 0; fact < 10; fact++) {
            mended(fact, 9, 0, true);
            mended(fact, 9, 1, true);
            for (int v : new int[] {-1, 2, MIN, MAX}) {
                mended(fact, 9, v, false);
            }
        }
        for (int fact : new int[] {-1, 10, 32, MIN, MAX}) {
            mended(fact, 9, 1, false);
        }
        for (int v = 0; v <= 9; v++) {
            mended(0, 10, v, true);
        }
        for (int v : new int[] {-1, 10, MIN, MAX}) {
            mended(0, 10, v, false);
        }
        for (int number : new int[] {-1, 1, 2, MIN, MAX}) {
            mended(number, 10, 3, false);
        }
        SkinOfTeeth x = new SkinOfTeeth();
        DUE.is("4 gold without people", x.mend(0, 10, 0), 3);
        DUE.is("4 so without people", x.mend(9, 9, 1), 0);
        DUE.is("4 a tooth without people", x.mend(0, 0, 1), -1);
        DUE.is("4 caps without people", x.mend(0, 8, 1), -1);
        DUE.is("4 the facts beside it", x.of(8, 9) + x.of(0, 9), 0);
        promise4EachFactAlone();
    }

    private static void promise4EachFactAlone() {
        for (int mended = 0; mended < 10; mended++) {
            for (int v = 0; v <= 1; v++) {
                SkinOfTeeth x = new SkinOfTeeth();
                for (int fact = 0; fact < 10; fact++) {
                    x.mend(fact, 9, 1 - v);
                }
                x.mend(mended, 9, v);
                for (int fact = 0; fact < 10; fact++) {
                    DUE.is("4 fact " + fact + " by " + mended, x.of(fact, 9), fact == mended ? v : 1 - v);
                }
                x.undo();
                DUE.is("4 fact " + mended + " undone", x.of(mended, 9), 1 - v);
            }
        }
    }

    private static void promise4NoSuchNumber() {
        for (int what : new int[] {-1, 11, 12, 13, MIN, MAX}) {
            SkinOfTeeth x = court(4);
            DUE.is("4 mend 0 " + what, x.mend(0, what, 1), -1);
            DUE.is("4 mend 0 " + what, x.mend(0, what, 0), -1);
            DUE.is("4 no change", x.count(3), 0);
            DUE.is("4 worth as it was", x.of(0, 11), 32);
            DUE.is("4 lies as they were", x.of(0, 12), 0);
        }
    }

    private static void promise5() {
        SkinOfTeeth x = court(4, 5, 6);
        for (int what = 0; what <= 12; what++) {
            boolean whose = what < 9 || what > 10;
            for (int number : new int[] {-1, 3, 10, MIN, MAX}) {
                DUE.is("5 of " + number + " " + what, x.of(number, what), what == 9 && number == 3 ? 0 : -1);
            }
            DUE.is("5 of 2 " + what, x.of(2, what), what < 8 ? 6 : what == 11 ? 48 : what == 10 ? -1 : 0);
            DUE.is("5 of 0 " + what, x.of(0, what), what < 8 ? 4 : what == 11 ? 32 : what == 10 ? 3 : 0);
            DUE.is("5 of nobody " + what, new SkinOfTeeth().of(0, what), whose ? -1 : what == 10 ? 3 : 0);
        }
        for (int what : new int[] {-1, 13, 14, MIN, MAX}) {
            DUE.is("5 of 0 " + what, x.of(0, what), -1);
        }
        x.mend(0, 10, 9);
        x.mend(2, 8, 255);
        for (int t = 0; t < 8; t++) {
            x.mend(2, t, 9);
        }
        DUE.is("5 the greatest worth", x.of(2, 11), 144);
        x.mend(0, 10, 0);
        DUE.is("5 caps worth nothing", x.of(2, 11), 72);
        SkinOfTeeth y = court(0);
        DUE.is("5 the least worth", y.of(0, 11), 0);
        y.mend(0, 8, 1);
        DUE.is("5 one cap alone", y.of(0, 11), 3);
        for (int i = 1; i <= 120; i++) {
            y.say(0, 10);
        }
        DUE.is("5 lies above 99", y.of(0, 12), 120);
    }

    private static void promise6() {
        for (int letter : new int[] {-1, 256, 257, MIN, MAX}) {
            SkinOfTeeth x = new SkinOfTeeth();
            DUE.is("6 feed " + letter, x.feed(letter), -1);
            DUE.is("6 nothing came", x.count(2), 0);
        }
        SkinOfTeeth x = new SkinOfTeeth();
        DUE.is("6 feed 0", x.feed(0), 1);
        DUE.is("6 feed 255", x.feed(255), 2);
        DUE.is("6 feed 256", x.feed(256), -1);
        DUE.is("6 feed 48", x.feed(48), 3);
        DUE.is("6 so many", x.count(2), 3);
        DUE.is("6 read", x.law(), -100);
        DUE.is("6 from the beginning", x.feed(48), 1);
        DUE.is("6 a law", x.law(), 1);
        DUE.is("6 from the beginning", x.feed(48), 1);
    }

    private static void promise6Full() {
        SkinOfTeeth x = court(9);
        for (int i = 1; i <= 120; i++) {
            DUE.is("6 feed", x.feed(i % 2 == 0 ? '-' : '1'), i);
            if (i == 119) {
                DUE.is("6 feed a BAD one", x.feed(-1), -1);
            }
        }
        DUE.is("6 the 121st", x.feed('1'), -3);
        DUE.is("6 the 121st, 0", x.feed(0), -3);
        DUE.is("6 BAD ahead of FULL", x.feed(-1), -1);
        DUE.is("6 BAD ahead of FULL", x.feed(256), -1);
        DUE.is("6 a hundred and twenty", x.count(2), 120);
        DUE.is("6 what came beyond is not there", x.law(), -220);
        DUE.is("6 empty", x.count(2), 0);
    }

    private static void promise8() {
        SkinOfTeeth x = court(4, 4);
        for (int size = 0; size <= 9; size++) {
            DUE.is("8 without a text, size " + size, x.takes(1, 90 + size), new int[] {1, 1, 2, 2, 3, 3, 4, 4, 5, 5}[size]);
        }
        DUE.all("8 one that is not there", -1, () -> x.takes(-1, 0), () -> x.takes(2, 0), () -> x.takes(7, 0),
            () -> x.takes(MIN, 0), () -> x.takes(MAX, 0), () -> court().takes(0, 0));
        DUE.all("8 fz beyond", -1, () -> x.takes(0, -1), () -> x.takes(0, 100), () -> x.takes(0, 101),
            () -> x.takes(0, MIN), () -> x.takes(0, MAX));
        Due.law(x, "f*10+z");
        for (int fz = 0; fz <= 99; fz++) {
            DUE.is("8 fz " + fz, x.takes(0, fz), fz);
        }
        DUE.is("8 more than there is", court(0).takes(0, 9), 5);
    }

    private static void promise8Now() {
        SkinOfTeeth x = court(4, 4);
        Due.law(x, "l*10+c");
        DUE.is("8 now", x.takes(0, 15), 0);
        x.say(0, 10);
        x.cap(0, 5);
        DUE.is("8 now, behind a lie and a cap", x.takes(0, 15), 11);
        DUE.is("8 the other one", x.takes(1, 15), 0);
        DUE.is("8 told once more", x.takes(0, 15), 11);
        DUE.is("8 whatever is so", x.takes(0, 5), 11);
        x.year();
        DUE.is("8 now, in a new year", x.takes(0, 15), 1);
        Due.law(x, "w");
        DUE.is("8 worth now", x.takes(0, 15), 35);
        x.mend(0, 10, 9);
        DUE.is("8 worth now, by gold", x.takes(0, 15), 41);
    }
}
