/** Promises 19 to 23 at their edges: mirrors that are none, lies for them, what is so, days drawn. */
public final class MirrorEdgesTest {
    private static final Due DUE = new Due("MirrorEdgesTest");
    private static final int MIN = Integer.MIN_VALUE;
    private static final int MAX = Integer.MAX_VALUE;

    public static void main(String[] args) {
        refusedMirrors();
        promise19Arguments();
        promise19HowMany();
        promise19Least();
        promise19EveryTooth();
        promise19And20WhichOne();
        promise20Arguments();
        promise20NoneAndAll();
        promise20Last();
        promise20OneAfterTheOther();
        promise21();
        promise21EveryTooth();
        promise22Arguments();
        promise22Refusals();
        promise22WhichShelf();
        promise22WhichOne();
        promise22AllAndNone();
        promise22OneWay();
        promise22LeastAndSure();
        promise22Facts();
        promise23Arguments();
        promise23Nobody();
        promise23Greatest();
        promise23ByHand();
        promise23TheFactOfTheLaw();
        DUE.end();
    }

    private static SkinOfTeeth court(int... flakes) {
        SkinOfTeeth x = new SkinOfTeeth();
        for (int f : flakes) {
            x.person(f);
        }
        return x;
    }

    private static void everyCall(SkinOfTeeth x, String about, int shelf, long want) {
        DUE.all(about, want, () -> x.liesFor(shelf, 0, 0), () -> x.liesFor(shelf, 0, 9), () -> x.two(shelf, 0, 0),
            () -> x.two(shelf, 0, 1), () -> x.others(shelf));
    }

    private static void refusedMirrors() {
        SkinOfTeeth x = court(0);
        for (int shelf : new int[] {-1, 6, 10, MIN, MAX}) {
            everyCall(x, "19-21 shelf " + shelf, shelf, -1);
        }
        for (int shelf = 0; shelf < 6; shelf++) {
            everyCall(x, "19-21 nothing on shelf " + shelf, shelf, -11);
        }
        for (int sort = 1; sort <= 4; sort++) {
            x.row(sort, sort, 8);
            everyCall(x, "19-21 sort " + sort, sort, -12);
            x.row(sort, sort, 7);
            everyCall(x, "19-21 -12 ahead of no mirror, sort " + sort, sort, -12);
        }
        x.body(6);
        x.keep(5, 0);
        everyCall(x, "19-21 a body, even of the kind MIRROR", 5, -12);
        for (int n = 0; n <= 60; n++) {
            x.row(0, 0, n);
            if (n != 8) {
                everyCall(x, "19-21 a row of " + n, 0, -2);
            }
        }
        DUE.all("19-21 BAD ahead of -11", -1, () -> court().liesFor(1, 0, 0), () -> court().liesFor(1, 0, 10),
            () -> court().two(1, 0, 0), () -> court(1).two(1, 0, 2));
        DUE.all("19-21 BAD ahead of no mirror", -1, () -> x.liesFor(0, 1, 0), () -> x.liesFor(0, 0, 10),
            () -> x.two(0, 1, 0), () -> x.two(0, 0, 2));
        DUE.all("19-21 BAD ahead of -12", -1, () -> x.liesFor(5, 1, 0), () -> x.liesFor(5, 0, -1),
            () -> x.two(5, 1, 0), () -> x.two(5, 0, -1));
    }

    private static void promise19Arguments() {
        SkinOfTeeth x = court(0, 0, 0);
        x.row(5, 0, 8);
        for (int size : new int[] {-1, 10, 11, MIN, MAX}) {
            DUE.is("19 size " + size, x.liesFor(5, 0, size), -1);
        }
        for (int one : new int[] {-1, 3, 7, MIN, MAX}) {
            DUE.is("19 one " + one, x.liesFor(5, one, 0), -1);
        }
        for (int size = 0; size <= 9; size++) {
            DUE.is("19 size " + size, x.liesFor(5, 2, size), 0);
        }
    }

    private static void promise19HowMany() {
        SkinOfTeeth x = court(1);
        Due.bytes(x, 0, 0, 1, 1, 1, 1, 1, 1, 1);
        for (int ahead : new int[] {0, 1, 97, 98}) {
            Due.law(x, "l=" + ahead);
            DUE.is("19 by the lie with " + ahead + " ahead", x.liesFor(0, 0, 0), ahead + 1);
        }
        Due.law(x, "l=99");
        DUE.is("19 not by 99", x.liesFor(0, 0, 0), -2);
        Due.law(x, "0");
        DUE.is("19 never", x.liesFor(0, 0, 0), -2);
        x.mend(0, 0, 0);
        DUE.is("19 by none", x.liesFor(0, 0, 0), 0);
    }

    private static void promise19Least() {
        SkinOfTeeth x = court(1);
        x.row(0, 0, 8);
        DUE.is("19 the least: nothing is left behind the eighth", x.liesFor(0, 0, 0), 8);
        x.mend(0, 8, 1);
        DUE.is("19 a capped tooth keeps its flake", x.liesFor(0, 0, 0), -2);
        x.put(0, 0, 1);
        DUE.is("19 so it is seen", x.liesFor(0, 0, 0), 7);
        Due.law(x, "f=0?7;0");
        DUE.is("19 about fact 0", x.liesFor(0, 0, 5), 1);
        x.mend(0, 9, 1);
        DUE.is("19 as if it were otherwise", x.liesFor(0, 0, 5), 1);
        DUE.is("19 nothing is told", x.of(0, 12) + x.led(0), 0);
        DUE.is("19 nothing came off", x.of(0, 11), 11);
    }

    private static void promise19EveryTooth() {
        for (int size = 0; size <= 9; size++) {
            SkinOfTeeth x = court(2);
            Due.law(x, "1");
            Due.bytes(x, 0, 2, 2, 2, 2, 2, 2, 2, 2);
            DUE.is("19 as it is", x.liesFor(0, 0, size), 0);
            x.put(0, size % 8, 1);
            DUE.is("19 one of size " + size, x.liesFor(0, 0, size), 1);
            x.put(0, size % 8, 0);
            DUE.is("19 two of size " + size, x.liesFor(0, 0, size), 2);
            x.put(0, (size + 1) % 8, 1);
            DUE.is("19 three of size " + size, x.liesFor(0, 0, size), 3);
            x.put(0, (size + 7) % 8, 1);
            DUE.is("19 the last tooth ahead of the others", x.liesFor(0, 0, size), -2);
            x.put(0, (size + 7) % 8, 3);
            DUE.is("19 more than there was", x.liesFor(0, 0, size), -2);
            x.put(0, (size + 7) % 8, -1);
            DUE.is("19 less than there can be", x.liesFor(0, 0, size), -2);
        }
    }

    private static void promise19And20WhichOne() {
        SkinOfTeeth x = court(3, 4, 5, 6, 7, 8, 9);
        for (int one = 0; one < 7; one++) {
            int f = one + 3;
            Due.bytes(x, 0, f - 1, f, f, f, f, f, f, f - 1);
            x.mend(one, 7, f - 1);
            for (int asked = 0; asked < 7; asked++) {
                DUE.is("19 " + asked + " in the mirror of " + one, x.liesFor(0, asked, 0), asked == one ? 1 : -2);
                DUE.is("20 " + asked + " in the mirror of " + one, x.two(0, asked, 0), 0);
            }
            x.mend(one, 7, f);
            for (int asked = 0; asked < 7; asked++) {
                DUE.is("20 " + asked + " in the mirror of " + one, x.two(0, asked, 1), -2);
            }
            x.put(0, 7, f);
            x.put(0, 1, f - 1);
            for (int asked = 0; asked < 7; asked++) {
                DUE.is("20 " + asked + " in the mirror of " + one, x.two(0, asked, 0), asked == one ? 2 : 0);
                DUE.is("20 " + asked + " in the mirror of " + one, x.two(0, asked, 1), asked == one ? 1 : -2);
            }
        }
    }

    private static void promise20Arguments() {
        SkinOfTeeth x = court(0, 0, 0);
        x.row(5, 0, 8);
        for (int what : new int[] {-1, 2, MIN, MAX}) {
            DUE.is("20 what " + what, x.two(5, 0, what), -1);
        }
        for (int one : new int[] {-1, 3, 7, MIN, MAX}) {
            DUE.is("20 one " + one, x.two(5, one, 0), -1);
        }
        DUE.is("20 the last one", x.two(5, 2, 0), 100);
        DUE.is("20 the last one", x.two(5, 2, 1), 0);
    }

    private static void promise20NoneAndAll() {
        SkinOfTeeth x = court(3);
        Due.bytes(x, 0, 3, 3, 3, 3, 3, 3, 3, 3);
        DUE.is("20 two lies take some", x.two(0, 0, 0), 0);
        DUE.is("20 two lies take some", x.two(0, 0, 1), -2);
        Due.law(x, "0");
        DUE.is("20 two lies take none", x.two(0, 0, 0), 100);
        DUE.is("20 the first of all", x.two(0, 0, 1), 0);
        x.put(0, 7, 4);
        DUE.is("20 more than there was", x.two(0, 0, 0), 0);
        DUE.is("20 more than there was", x.two(0, 0, 1), -2);
        x.put(0, 7, -1);
        DUE.is("20 less than there can be", x.two(0, 0, 0), 0);
    }

    private static void promise20Last() {
        SkinOfTeeth x = court(3);
        Due.law(x, "z=9");
        Due.bytes(x, 0, 3, 1, 3, 3, 3, 3, 3, 3);
        DUE.is("20 nine and nine", x.two(0, 0, 0), 1);
        DUE.is("20 the last of all", x.two(0, 0, 1), 99);
        x.put(0, 1, 2);
        DUE.is("20 nine and another, or another and nine", x.two(0, 0, 0), 18);
        DUE.is("20 the first of them", x.two(0, 0, 1), 9);
        Due.law(x, "z=9&l=0");
        DUE.is("20 nine, then any", x.two(0, 0, 0), 10);
        DUE.is("20 the first of them", x.two(0, 0, 1), 90);
        Due.law(x, "z=9&l=1");
        DUE.is("20 any, then nine", x.two(0, 0, 0), 10);
        DUE.is("20 the first of them", x.two(0, 0, 1), 9);
    }

    private static void promise20OneAfterTheOther() {
        SkinOfTeeth x = court(3);
        Due.law(x, "l=0?1;w=23?2;9");
        Due.bytes(x, 0, 2, 3, 3, 3, 3, 1, 3, 3);
        DUE.is("20 by lies and worth behind the first", x.two(0, 0, 0), 2);
        DUE.is("20 0 then 5", x.two(0, 0, 1), 5);
        x.say(0, 13);
        DUE.is("20 not from the mouth of now", x.two(0, 0, 0), 0);
        SkinOfTeeth y = court(3);
        Due.law(y, "f=0");
        y.mend(0, 9, 1);
        Due.bytes(y, 0, 2, 2, 3, 3, 3, 3, 3, 3);
        DUE.is("20 about fact 0, as if it were otherwise", y.two(0, 0, 0), 8);
        DUE.is("20 0 and 1, 0 and 9, 8 and 1, 8 and 9, or turned", y.two(0, 0, 1), 1);
        DUE.is("20 nothing is told", y.of(0, 12) + y.led(0), 0);
    }

    private static void promise21() {
        SkinOfTeeth x = court();
        x.row(5, 0, 8);
        DUE.is("21 nobody is there", x.others(5), 0);
        for (int people = 1; people <= 7; people++) {
            x.person(0);
            DUE.is("21 all of " + people, x.others(5), (1 << people) - 1);
        }
        for (int one = 0; one < 7; one++) {
            x.mend(one, 8, 255);
            DUE.is("21 caps are not seen", x.others(5), 127 >> one << one);
            x.mend(one, 7, 1);
            DUE.is("21 one after the other is no more so", x.others(5), 127 >> one + 1 << one + 1);
        }
        x.put(5, 7, 1);
        DUE.is("21 all are so by now", x.others(5), 127);
        x.put(5, 7, -128);
        DUE.is("21 none can be", x.others(5), 0);
    }

    private static void promise21EveryTooth() {
        SkinOfTeeth x = court(9, 8);
        Due.bytes(x, 0, 9, 9, 9, 9, 9, 9, 9, 9);
        for (int t = 0; t < 8; t++) {
            x.mend(0, t, 8);
            DUE.is("21 unlike at " + t, x.others(0), 0);
            x.mend(0, t, 9);
            DUE.is("21 alike", x.others(0), 1);
        }
        x.say(0, 10);
        DUE.is("21 now, behind a lie", x.others(0), 0);
    }

    private static void promise22Arguments() {
        SkinOfTeeth x = court(0, 0, 0);
        for (int shelf = 0; shelf < 6; shelf++) {
            x.row(shelf, 0, 8);
        }
        for (int tm = -20; tm <= 120; tm++) {
            boolean well = tm >= 0 && tm / 10 <= 5 && tm % 10 <= 5;
            DUE.is("22 tm " + tm, x.isSo(tm, 1, 0), well ? 2 : -1);
        }
        for (int on = -20; on <= 50; on++) {
            boolean well = on >= 0 && on / 10 <= 2 && on % 10 >= 1 && on % 10 <= 8;
            DUE.is("22 on " + on, x.isSo(0, on, 0), well ? 1 << on % 10 : -1);
        }
        for (int what : new int[] {-1, 3, 4, MIN, MAX}) {
            DUE.is("22 what " + what, x.isSo(0, 1, what), -1);
        }
        DUE.all("22 far beyond", -1, () -> x.isSo(MIN, 1, 0), () -> x.isSo(MAX, 1, 0), () -> x.isSo(0, MIN, 0),
            () -> x.isSo(0, MAX, 0), () -> x.isSo(100, 1, 0), () -> x.isSo(0, 101, 0), () -> x.isSo(0, 71, 0));
        SkinOfTeeth y = court();
        y.row(0, 0, 8);
        DUE.is("22 nobody", y.isSo(0, 1, 0), -1);
    }

    private static void promise22Refusals() {
        int[] kinds = {0, 1, 2, 3, 4, 5};
        for (int what = 0; what < 3; what++) {
            SkinOfTeeth x = court(0);
            x.body(0);
            // 0 nothing, 1 longs, 2 a body, 3 no mirror but a trial, 4 a mirror (and a trial), 5 an empty row of booleans
            x.row(1, 3, 8);
            x.keep(2, 0);
            x.row(3, 0, 12);
            x.row(4, 0, 8);
            x.row(5, 4, 0);
            int[] refused = {-11, -12, -12, 0, 0, -12};
            for (int trial : kinds) {
                for (int mirror : kinds) {
                    int due = Math.min(refused[trial], refused[mirror]) < 0 ? -12 : 0;
                    due = refused[trial] == -11 || refused[mirror] == -11 ? -11 : due;
                    due = due == 0 && mirror == 3 ? -2 : due;
                    due = due == 0 ? new int[] {2, 0, 0}[what] : due;
                    DUE.is("22 shelves " + trial + " and " + mirror, x.isSo(10 * trial + mirror, 1, what), due);
                    DUE.is("22 BAD ahead of it", x.isSo(10 * trial + mirror, 9, what), -1);
                }
            }
        }
    }

    private static void promise22WhichShelf() {
        SkinOfTeeth x = court(1, 3);
        Due.bytes(x, 5, 1, 0, 1, 2, 0, 1, 1, 0);
        Due.bytes(x, 0, 3, 3, 1, 3, 3, 3, 3, 3);
        DUE.is("22 a trial on 5, a mirror on 0, of 1", x.isSo(50, 12, 0), 2);
        DUE.is("22 the least", x.isSo(50, 12, 1), 0);
        DUE.is("22 of 0", x.isSo(50, 2, 0), 0);
        DUE.is("22 a trial on 0, a mirror on 5", x.isSo(5, 11, 0), 0);
        DUE.is("22 one shelf for both", x.isSo(55, 11, 0), 0);
        Due.bytes(x, 5, 3, 3, 3, 3, 3, 3, 3, 3);
        DUE.is("22 one shelf for both, whose first may not be", x.isSo(55, 11, 0), 2);
    }

    private static void promise22WhichOne() {
        SkinOfTeeth x = court(1, 2, 3, 4, 5, 6, 7);
        x.row(0, 0, 0);
        for (int one = 0; one < 7; one++) {
            Due.bytes(x, 1, one + 1, one + 1, one + 1, one + 1, one + 1, one + 1, one + 1, one + 1);
            for (int n = 1; n <= 8; n++) {
                DUE.is("22 the mouth of " + one, x.isSo(1, 10 * one + n, 0), 1 << n);
                DUE.is("22 the mouth of another", x.isSo(1, 10 * ((one + 1) % 7) + n, 0), 0);
            }
        }
        DUE.is("22 beyond the last one", x.isSo(1, 71, 0), -1);
    }

    private static void promise22AllAndNone() {
        SkinOfTeeth x = court(3);
        x.row(0, 0, 0);
        Due.bytes(x, 1, 3, 3, 3, 3, 3, 3, 3, 3);
        for (int n = 1; n <= 8; n++) {
            DUE.is("22 a trial without sayings: all ways", x.isSo(1, n, 0), 1 << n);
            DUE.is("22 the least", x.isSo(1, n, 1), 0);
            DUE.is("22 none is in all", x.isSo(1, n, 2), 0);
        }
        x.put(1, 7, 2);
        for (int n = 1; n <= 8; n++) {
            DUE.is("22 no way", x.isSo(1, n, 0), 0);
            DUE.is("22 no way: no least", x.isSo(1, n, 1), -2);
            DUE.is("22 no way: none sure", x.isSo(1, n, 2), -2);
        }
    }

    private static void promise22OneWay() {
        SkinOfTeeth x = court(3);
        Due.bytes(x, 1, 3, 3, 3, 3, 3, 3, 3, 3);
        x.row(0, 0, 32);
        for (int fact = 0; fact < 8; fact++) {
            x.put(0, 4 * fact + 1, fact);
            x.put(0, 4 * fact + 2, 1);
        }
        DUE.is("22 all eight so", x.isSo(1, 8, 0), 1);
        DUE.is("22 all eight so", x.isSo(1, 8, 1), 255);
        DUE.is("22 all eight so", x.isSo(1, 8, 2), 255);
        DUE.is("22 seven, the eighth is not so", x.isSo(1, 7, 0), 0);
        x.mend(7, 9, 1);
        DUE.is("22 seven, the eighth is so", x.isSo(1, 7, 0), 1);
        DUE.is("22 seven, the eighth is so", x.isSo(1, 7, 2), 127);
        DUE.is("22 asking makes nothing so", x.of(0, 9) + x.of(6, 9), 0);
        x.put(0, 30, 0);
        DUE.is("22 seven of eight so", x.isSo(1, 8, 1), 127);
        DUE.is("22 whatever is so now", x.isSo(1, 8, 0), 1);
        DUE.is("22 it is so, against the trial", x.isSo(1, 7, 0), 0);
    }

    /** One of two facts is so, and a third one: the least way is not what is sure. */
    private static void promise22LeastAndSure() {
        SkinOfTeeth x = court(3);
        Due.bytes(x, 0, 0, 0, 1, 0, 0, 6, 1, 0, 0, 7, 1, 1);
        Due.bytes(x, 1, 2, 3, 3, 3, 3, 3, 3, 3);
        DUE.is("22 either of two", x.isSo(1, 8, 0), 64);
        DUE.is("22 the least", x.isSo(1, 8, 1), 128 + 1);
        DUE.is("22 sure in all", x.isSo(1, 8, 2), 128);
        x.put(0, 11, 8);
        x.put(0, 10, 0);
        x.put(1, 0, 2);
        DUE.is("22 the third not so", x.isSo(1, 8, 1), 1);
        DUE.is("22 none sure in all, where there are ways", x.isSo(1, 8, 2), 0);
    }

    private static void promise22Facts() {
        SkinOfTeeth x = court(3);
        Due.bytes(x, 1, 3, 3, 3, 3, 3, 3, 3, 3);
        for (int fact = 0; fact < 10; fact++) {
            Due.bytes(x, 0, 0, fact, 1, 0);
            DUE.is("22 fact " + fact + " of eight", x.isSo(1, 8, 0), fact < 8 ? 128 : 0);
            DUE.is("22 sure", x.isSo(1, 8, 2), fact < 8 ? 1 << fact : -2);
            x.mend(fact, 9, 1);
            DUE.is("22 fact " + fact + " of eight, so now", x.isSo(1, 8, 0), fact < 8 ? 128 : 256);
            DUE.is("22 the least", x.isSo(1, 8, 1), fact < 8 ? 1 << fact : 0);
            DUE.is("22 of the first alone", x.isSo(1, 1, 0), fact == 0 ? 1 : 2);
            x.mend(fact, 9, 0);
        }
    }

    private static void promise23Arguments() {
        SkinOfTeeth x = court(9);
        Due.law(x, "0");
        SkinOfTeeth y = court();
        for (int n = -2; n <= 33; n++) {
            for (int m : new int[] {0, 1, 2, 59, 60, 61, 99}) {
                int nm = 100 * n + m;
                int days = nm / 100;
                boolean well = days >= 1 && days <= 30 && nm % 100 >= 1 && nm % 100 <= 60;
                DUE.is("23 nm " + nm, x.drawn(1, nm, 1), well ? 72 * days : -1);
                DUE.is("23 nm " + nm + ", nobody", y.drawn(1, nm, 0), well ? 0 : -1);
            }
        }
        DUE.all("23 far beyond", -1, () -> x.drawn(1, MIN, 0), () -> x.drawn(1, MAX, 0), () -> x.drawn(1, 10101, 0));
        for (int what : new int[] {-1, 2, MIN, MAX}) {
            DUE.is("23 what " + what, court(9).drawn(1, 101, what), -1);
            DUE.is("23 what " + what + ", nobody", court().drawn(1, 101, what), -1);
        }
    }

    private static void promise23Nobody() {
        for (int seed : new int[] {0, 1, -1, MIN, MAX}) {
            DUE.is("23 nobody: no lies", court().drawn(seed, 3060, 0), 0);
            DUE.is("23 nobody: no flakes", court().drawn(seed, 3060, 1), 0);
            SkinOfTeeth x = court(9);
            Due.law(x, "99");
            DUE.is("23 one who is gone every day", x.drawn(seed, 3060, 1), 0);
        }
    }

    private static void promise23Greatest() {
        for (int seed : new int[] {0, 1, -1, MIN, MAX, 123456789}) {
            SkinOfTeeth x = court(9, 9, 9, 9, 9, 9, 9);
            Due.law(x, "0");
            int lies = 0;
            int z = seed;
            for (int i = 0; i < 1800; i++) {
                z = z * 1103515245 + 12345;
                lies += (z >>> 18) & 1;
            }
            DUE.is("23 1800 sayings of nothing so", x.drawn(seed, 3060, 0), lies);
            DUE.is("23 all flakes of thirty days", x.drawn(seed, 3060, 1), 30 * 7 * 72);
            for (int fact = 0; fact < 10; fact++) {
                x.mend(fact, 9, 1);
            }
            DUE.is("23 1800 sayings of all so", x.drawn(seed, 3060, 0), 1800 - lies);
            DUE.is("23 nothing is told", x.led(0) + x.year(), 0);
        }
    }

    /** Days in deed: each on a court of its own, as it is now. */
    private static void promise23ByHand() {
        for (int people = 1; people <= 7; people++) {
            for (int seed : new int[] {0, -1, MIN, MAX, 40503 * people}) {
                int z = seed;
                int lies = 0;
                int flakes = 0;
                for (int day = 0; day < 3; day++) {
                    SkinOfTeeth y = forDays(people);
                    int before = y.led(1);
                    for (int i = 0; i < 60; i++) {
                        z = z * 1103515245 + 12345;
                        y.say((z >>> 4) % people, (z >>> 12) % 10 * 100 + (z >>> 18) % 2 * 10 + (z >>> 22) % 10);
                    }
                    lies += y.led(1) - before;
                    for (int one = 0; one < people; one++) {
                        flakes += y.of(one, 11) - 3 * Integer.bitCount(y.of(one, 8));
                    }
                }
                SkinOfTeeth x = forDays(people);
                DUE.is("23 lies of " + people, x.drawn(seed, 360, 0), lies);
                DUE.is("23 flakes of " + people, x.drawn(seed, 360, 1), flakes);
            }
        }
    }

    /** One lie a day of one whom it takes as many flakes as the fact's number. */
    private static void promise23TheFactOfTheLaw() {
        for (int seed = -300; seed < 300; seed += 7) {
            SkinOfTeeth x = court(9);
            Due.law(x, "f");
            int z = seed * 1103515245 + 12345;
            boolean lie = (z >>> 18) % 2 == 1;
            DUE.is("23 f of the law", x.drawn(seed, 101, 1), 72 - (lie ? (z >>> 12) % 10 : 0));
        }
    }

    private static SkinOfTeeth forDays(int people) {
        SkinOfTeeth x = new SkinOfTeeth();
        for (int i = 0; i < people; i++) {
            x.person(9 - i);
            x.mend(i, 8, 1 << i);
        }
        x.mend(9, 9, 1);
        x.mend(4, 9, 1);
        Due.law(x, "l=0?1;z%3");
        x.say(0, 13);
        return x;
    }
}
