/** Promises 19 to 23: mirrors, draws. */
public final class MirrorTest {
    private static final Due DUE = new Due("MirrorTest");

    public static void main(String[] args) {
        refusals();
        liesFor();
        two();
        others();
        isSo();
        isSoOneOfTwo();
        isSoRefusals();
        drawn();
        drawnByHand();
        DUE.end();
    }

    private static void refusals() {
        SkinOfTeeth x = new SkinOfTeeth();
        x.person(3);
        DUE.all("BAD ahead of -11", -1, () -> x.liesFor(6, 0, 0), () -> x.liesFor(-1, 0, 0), () -> x.liesFor(0, 1, 0),
            () -> x.liesFor(0, -1, 0), () -> x.liesFor(0, 0, 10), () -> x.liesFor(0, 0, -1), () -> x.two(6, 0, 0),
            () -> x.two(0, 1, 0), () -> x.two(0, 0, 2), () -> x.two(0, 0, -1), () -> x.others(6), () -> x.others(-1));
        DUE.all("-11", -11, () -> x.liesFor(0, 0, 0), () -> x.two(0, 0, 0), () -> x.others(0));
        x.row(0, 1, 8);
        DUE.all("-12", -12, () -> x.liesFor(0, 0, 0), () -> x.two(0, 0, 1), () -> x.others(0));
        x.row(0, 4, 7);
        DUE.all("-12 ahead of NOT", -12, () -> x.liesFor(0, 0, 0), () -> x.two(0, 0, 1), () -> x.others(0));
        x.body(0);
        x.keep(0, 0);
        DUE.all("a body", -12, () -> x.liesFor(0, 0, 0), () -> x.two(0, 0, 1), () -> x.others(0));
        for (int n = 0; n <= 60; n++) {
            if (n != 8) {
                x.row(0, 0, n);
                DUE.all("no mirror " + n, -2, () -> x.liesFor(0, 0, 0), () -> x.two(0, 0, 0), () -> x.two(0, 0, 1),
                    () -> x.others(0));
            }
        }
    }

    private static void liesFor() {
        SkinOfTeeth x = new SkinOfTeeth();
        x.person(3);
        x.person(9);
        Due.bytes(x, 0, 3, 3, 3, 3, 3, 3, 3, 3);
        DUE.is("none", x.liesFor(0, 0, 5), 0);
        Due.bytes(x, 0, 3, 3, 3, 3, 3, 0, 0, 3);
        DUE.is("two of three", x.liesFor(0, 0, 5), 2);
        DUE.is("three of two", x.liesFor(0, 0, 6), -2);
        DUE.is("the other's", x.liesFor(0, 1, 5), -2);
        x.mend(0, 9, 1);
        DUE.is("as if it were otherwise", x.liesFor(0, 0, 5), 2);
        x.mend(0, 8, 64);
        x.mend(0, 6, 0);
        DUE.is("one, and a cap", x.liesFor(0, 0, 5), 1);
        Due.bytes(x, 0, 0, 0, 0, 0, 0, 0, 0, 0);
        DUE.is("all 72", x.liesFor(0, 1, 0), 72);
        Due.law(x, "l=98?99");
        DUE.is("the 99th", x.liesFor(0, 1, 3), 99);
        Due.law(x, "l=99?99");
        DUE.is("not by 99", x.liesFor(0, 1, 3), -2);
        Due.law(x, "f?1;99");
        DUE.is("about fact 0", x.liesFor(0, 1, 3), 1);
        DUE.is("in thought alone", x.of(1, 12), 0);
        DUE.is("in thought alone", x.of(1, 11), 72);
    }

    private static void two() {
        SkinOfTeeth x = new SkinOfTeeth();
        x.person(3);
        Due.bytes(x, 0, 3, 3, 2, 1, 3, 3, 3, 3);
        DUE.is("2 and 3 take two each", x.two(0, 0, 0), 0);
        Due.bytes(x, 0, 3, 3, 1, 1, 3, 3, 3, 3);
        DUE.is("both ways", x.two(0, 0, 0), 2);
        DUE.is("the first", x.two(0, 0, 1), 23);
        Due.law(x, "l*2");
        Due.bytes(x, 0, 1, 3, 3, 3, 3, 3, 3, 3);
        DUE.is("any, then 0 or 8", x.two(0, 0, 0), 20);
        DUE.is("the first", x.two(0, 0, 1), 0);
        Due.law(x, "l&z=9?1");
        Due.bytes(x, 0, 3, 2, 3, 3, 3, 3, 3, 3);
        DUE.is("any, then 9", x.two(0, 0, 0), 10);
        DUE.is("the first", x.two(0, 0, 1), 9);
        Due.bytes(x, 0, 3, 4, 3, 3, 3, 3, 3, 3);
        DUE.is("never", x.two(0, 0, 0), 0);
        Due.law(x, "f?1");
        Due.bytes(x, 0, 3, 3, 3, 3, 3, 3, 3, 3);
        DUE.is("about fact 0", x.two(0, 0, 0), 100);
        Due.bytes(x, 0, 3, 4, 3, 3, 3, 3, 3, 3);
        DUE.is("never", x.two(0, 0, 1), -2);
        DUE.is("in thought alone", x.of(0, 12), 0);
    }

    private static void others() {
        SkinOfTeeth x = new SkinOfTeeth();
        Due.bytes(x, 2, 4, 4, 4, 4, 4, 4, 4, 4);
        DUE.is("nobody there", x.others(2), 0);
        x.person(4);
        x.person(3);
        x.person(4);
        DUE.is("0 and 2", x.others(2), 5);
        x.mend(2, 8, 255);
        DUE.is("caps are not seen", x.others(2), 5);
        x.mend(2, 7, 5);
        DUE.is("0", x.others(2), 1);
        Due.bytes(x, 2, 4, 4, 4, 4, 4, 4, 4, -1);
        DUE.is("none", x.others(2), 0);
    }

    private static void isSo() {
        SkinOfTeeth x = new SkinOfTeeth();
        x.person(3);
        x.person(3);
        x.mend(2, 9, 1);
        Due.bytes(x, 0, 0, 0, 1, 0, 0, 1, 1, 1, 0, 2, 0, 2, 1, 3, 1, 3);
        Due.bytes(x, 1, 2, 2, 3, 3, 3, 3, 3, 3);
        DUE.is("fact 2 is so as it is: a lie of 2", x.isSo(1, 2, 0), 0);
        DUE.is("none: least", x.isSo(1, 2, 1), -2);
        DUE.is("none: sure", x.isSo(1, 2, 2), -2);
        DUE.is("0, 1, 2 not so", x.isSo(1, 3, 0), 1);
        DUE.is("0, 1, 2 not so", x.isSo(1, 3, 1), 0);
        DUE.is("none is sure to be so", x.isSo(1, 3, 2), 0);
        DUE.is("fact 3 whatever", x.isSo(1, 4, 0), 2);
        DUE.is("all eight", x.isSo(1, 8, 0), 32);
        DUE.is("sure", x.isSo(1, 8, 2), 0);
        Due.bytes(x, 1, 3, 2, 1, 3, 3, 3, 3, 3);
        DUE.is("lies of 1 and 2", x.isSo(1, 8, 0), 32);
        DUE.is("0 and 2 are so: the least", x.isSo(1, 8, 1), 5);
        DUE.is("0 and 2 are so: sure", x.isSo(1, 8, 2), 5);
        DUE.is("the other one", x.isSo(1, 18, 0), 0);
        Due.bytes(x, 1, 3, 3, 3, 3, 3, 3, 3, 3);
        DUE.is("the other one told no lie", x.isSo(1, 18, 0), 128);
        DUE.is("the least", x.isSo(1, 18, 1), 8);
        DUE.is("sure", x.isSo(1, 18, 2), 8);
        DUE.is("fact 3 stays as it is", x.isSo(1, 13, 0), 0);
        DUE.is("in thought alone", x.of(2, 9), 1);
        DUE.is("in thought alone", x.of(0, 12), 0);
    }

    private static void isSoOneOfTwo() {
        SkinOfTeeth x = new SkinOfTeeth();
        x.person(1);
        x.person(3);
        Due.bytes(x, 3, 1, 0, 1, 5, 1, 1, 1, 5, 0, 2, 1, 5);
        Due.bytes(x, 5, 3, 3, 3, 3, 3, 0, 3, 3);
        DUE.is("either of two", x.isSo(35, 12, 0), 2);
        DUE.is("the least", x.isSo(35, 12, 1), 1);
        DUE.is("none in both", x.isSo(35, 12, 2), 0);
        DUE.is("and fact 2 whatever", x.isSo(35, 13, 0), 4);
        DUE.is("fact 1 as it is, a lie: fact 0 is none", x.isSo(35, 11, 0), 1);
        DUE.is("fact 0 is so", x.isSo(35, 11, 2), 1);
    }

    private static void isSoRefusals() {
        SkinOfTeeth x = new SkinOfTeeth();
        x.person(3);
        DUE.all("isSo wrong", -1, () -> x.isSo(-1, 1, 0), () -> x.isSo(60, 1, 0), () -> x.isSo(6, 1, 0),
            () -> x.isSo(19, 1, 0), () -> x.isSo(1, 0, 0), () -> x.isSo(1, 9, 0), () -> x.isSo(1, 11, 0),
            () -> x.isSo(1, -1, 0), () -> x.isSo(1, -8, 0), () -> x.isSo(1, 1, 3), () -> x.isSo(1, 1, -1));
        DUE.is("both missing", x.isSo(1, 1, 0), -11);
        x.row(0, 0, 8);
        DUE.is("the mirror missing", x.isSo(1, 1, 0), -11);
        DUE.is("the trial missing", x.isSo(10, 1, 0), -11);
        x.row(1, 3, 8);
        DUE.is("the mirror of longs", x.isSo(1, 1, 0), -12);
        DUE.is("the trial of longs", x.isSo(10, 1, 0), -12);
        DUE.is("a missing one ahead of another kind", x.isSo(12, 1, 0), -11);
        DUE.is("a missing one ahead of another kind", x.isSo(21, 1, 0), -11);
        x.row(1, 0, 7);
        DUE.all("no mirror", -2, () -> x.isSo(1, 1, 0), () -> x.isSo(1, 1, 1), () -> x.isSo(1, 1, 2));
        x.row(0, 1, 8);
        DUE.is("another kind ahead of no mirror", x.isSo(1, 1, 0), -12);
    }

    private static void drawn() {
        SkinOfTeeth x = new SkinOfTeeth();
        DUE.is("no people", x.drawn(5, 3060, 0), 0);
        DUE.is("no people", x.drawn(5, 101, 1), 0);
        DUE.all("drawn wrong", -1, () -> x.drawn(5, 100, 0), () -> x.drawn(5, 161, 0), () -> x.drawn(5, 3101, 0),
            () -> x.drawn(5, 60, 0), () -> x.drawn(5, 0, 0), () -> x.drawn(5, -101, 0), () -> x.drawn(5, 101, 2),
            () -> x.drawn(5, 101, -1), () -> x.drawn(5, Integer.MIN_VALUE, 0));
        x.person(9);
        x.person(4);
        DUE.is("seed 0: 1 says the truth of fact 3", x.drawn(0, 101, 0), 0);
        x.mend(3, 9, 1);
        DUE.is("seed 0: 1 tells a lie of size 0 of fact 3", x.drawn(0, 101, 0), 1);
        DUE.is("one flake comes off", x.drawn(0, 101, 1), 103);
        DUE.is("in thought alone", x.of(0, 11), 72);
        DUE.is("in thought alone", x.led(0), 0);
        Due.law(x, "0");
        DUE.is("every day all are whole again", x.drawn(77, 3060, 1), 30 * 104);
    }

    private static void drawnByHand() {
        for (int seed = -3; seed <= 3; seed++) {
            SkinOfTeeth x = new SkinOfTeeth();
            x.person(2);
            x.person(3);
            x.person(1);
            x.mend(4, 9, 1);
            x.mend(1, 8, 17);
            x.say(2, 19);
            long lies = 0;
            long flakes = 0;
            int z = seed * 99991;
            for (int day = 0; day < 3; day++) {
                SkinOfTeeth y = new SkinOfTeeth();
                y.person(2);
                y.person(3);
                y.person(1);
                y.mend(4, 9, 1);
                y.mend(1, 8, 17);
                y.say(2, 19);
                y.year();
                for (int i = 0; i < 20; i++) {
                    z = z * 1103515245 + 12345;
                    y.say((z >>> 4) % 3, (z >>> 12) % 10 * 100 + (z >>> 18) % 2 * 10 + (z >>> 22) % 10);
                }
                lies += y.year();
                flakes += y.of(0, 11) + y.of(1, 11) - 6 + y.of(2, 11);
            }
            DUE.is("lies", x.drawn(seed * 99991, 320, 0), lies);
            DUE.is("flakes", x.drawn(seed * 99991, 320, 1), flakes);
        }
    }
}
