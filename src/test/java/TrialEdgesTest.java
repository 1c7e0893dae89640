import java.util.function.IntConsumer;

/** Promises 9 to 13 at their edges: least, greatest, just beyond, none, full, alike. */
public final class TrialEdgesTest {
    private static final Due DUE = new Due("TrialEdgesTest");
    private static final int MIN = Integer.MIN_VALUE;
    private static final int MAX = Integer.MAX_VALUE;

    public static void main(String[] args) {
        refusedShelves();
        promise9Arguments();
        promise9WhatMayBe();
        promise9HowMany();
        promise9TheFirstThatMayNotBe();
        promise9Then();
        promise9Fifteen();
        promise10();
        promise10Teeth();
        promise11();
        promise11First();
        promise12Arguments();
        promise12Alike();
        promise12Last();
        promise12AtTheEnd();
        promise12Many();
        promise13Arguments();
        promise13Wrong();
        promise13Liars();
        promise13Unheard();
        promise13Honest();
        DUE.end();
    }

    private static SkinOfTeeth court(int... flakes) {
        SkinOfTeeth x = new SkinOfTeeth();
        for (int f : flakes) {
            x.person(f);
        }
        return x;
    }

    /** A court of so many people with 9 flakes on each tooth. */
    private static SkinOfTeeth many(int people) {
        SkinOfTeeth x = new SkinOfTeeth();
        for (int i = 0; i < people; i++) {
            x.person(9);
        }
        return x;
    }

    private static void everyCall(SkinOfTeeth x, String about, int shelf, long want) {
        DUE.all(about, want, () -> x.trial(shelf, -1, 0), () -> x.trial(shelf, 0, 1), () -> x.tooth(shelf, 7),
            () -> x.gone(shelf), () -> x.believed(shelf, 9), () -> x.told(shelf, 0), () -> x.told(shelf, 3),
            () -> x.have(shelf, 0, 0), () -> x.have(shelf, 91, 2), () -> x.bribe(shelf, 0, 0), () -> x.bribe(shelf, 91, 1));
    }

    private static void refusedShelves() {
        SkinOfTeeth x = many(2);
        for (int shelf : new int[] {-1, 6, 10, MIN, MAX}) {
            everyCall(x, "9-14, 18 shelf " + shelf, shelf, -1);
        }
        for (int shelf = 0; shelf < 6; shelf++) {
            everyCall(x, "9-14, 18 nothing on shelf " + shelf, shelf, -11);
        }
        for (int sort = 1; sort <= 4; sort++) {
            x.row(sort, sort, 8);
            everyCall(x, "9-14, 18 sort " + sort, sort, -12);
            x.row(sort, sort, 0);
            everyCall(x, "9-14, 18 sort " + sort + ", empty", sort, -12);
        }
        x.body(0);
        x.keep(5, 0);
        everyCall(x, "9-14, 18 a body", 5, -12);
        x.keep(5, -1);
        everyCall(x, "9-14, 18 a shelf that holds nothing any more", 5, -11);
        SkinOfTeeth y = court();
        DUE.all("9-14, 18 BAD ahead of -11", -1, () -> y.trial(0, 0, 0), () -> y.trial(0, -1, 2), () -> y.tooth(0, 0),
            () -> y.believed(0, 10), () -> y.told(0, 4), () -> y.have(0, 2, 0), () -> y.have(0, 0, 3),
            () -> y.bribe(0, 2, 0), () -> y.bribe(0, 0, 2));
        y.row(0, 2, 4);
        DUE.all("9-14, 18 BAD ahead of -12", -1, () -> y.trial(0, 0, 0), () -> y.trial(0, -1, 2), () -> y.tooth(0, 0),
            () -> y.believed(0, 10), () -> y.told(0, 4), () -> y.have(0, 2, 0), () -> y.have(0, 0, 3),
            () -> y.bribe(0, 2, 0), () -> y.bribe(0, 0, 2));
    }

    private static void promise9Arguments() {
        SkinOfTeeth x = many(3);
        x.row(5, 0, 8);
        for (int one : new int[] {-2, 3, 7, MIN, MAX}) {
            DUE.is("9 one " + one, x.trial(5, one, 0), -1);
        }
        for (int what : new int[] {-1, 2, MIN, MAX}) {
            DUE.is("9 what " + what, x.trial(5, 0, what), -1);
            DUE.is("9 what " + what + " of none", x.trial(5, -1, what), -1);
        }
        DUE.is("9 how many", x.trial(5, -1, 0), 2);
        DUE.is("9 how many, what 1 all the same", x.trial(5, -1, 1), 2);
        DUE.is("9 worth of the first", x.trial(5, 0, 0), 72);
        DUE.is("9 worth of the last", x.trial(5, 2, 0), 72);
        DUE.is("9 lies of the last", x.trial(5, 2, 1), 0);
    }

    private static void promise9WhatMayBe() {
        int[][] least = {{0, 2}, {0, 9}, {0, 1}, {0, 9}};
        for (int part = 0; part < 4; part++) {
            for (int v = -128; v <= 127; v++) {
                SkinOfTeeth x = many(3);
                x.row(0, 0, 4);
                x.put(0, part, v);
                boolean well = v >= least[part][0] && v <= least[part][1];
                DUE.is("9 part " + part + " is " + v, x.trial(0, -1, 0), well ? 1 : 0);
            }
        }
        for (int people = 0; people <= 7; people++) {
            SkinOfTeeth x = many(people);
            Due.bytes(x, 0, people, 0, 0, 0);
            DUE.is("9 one who is not there", x.trial(0, -1, 0), 0);
            x.put(0, 0, people - 1);
            DUE.is("9 the last one", x.trial(0, -1, 0), people == 0 ? 0 : 1);
        }
        SkinOfTeeth x = many(2);
        Due.bytes(x, 0, 2, 0, 0, 0);
        DUE.is("9 not there as yet", x.trial(0, -1, 0), 0);
        x.person(1);
        DUE.is("9 there by now", x.trial(0, -1, 0), 1);
    }

    private static void promise9HowMany() {
        SkinOfTeeth x = many(1);
        for (int n = 0; n <= 60; n++) {
            x.row(0, 0, n);
            DUE.is("9 of " + n + " bytes", x.trial(0, -1, 0), n / 4);
        }
    }

    private static void promise9TheFirstThatMayNotBe() {
        for (int k = 0; k < 15; k++) {
            SkinOfTeeth x = many(1);
            x.row(0, 0, 60);
            x.put(0, 4 * k + k % 4, 10);
            DUE.is("9 as far as they may be", x.trial(0, -1, 0), k);
            x.put(0, 4 * k + k % 4, 0);
            DUE.is("9 all may be", x.trial(0, -1, 0), 15);
        }
        SkinOfTeeth x = many(1);
        Due.bytes(x, 0, 0, 0, 1, 0, 1, 0, 1, 0, 0, 0, 1, 0);
        DUE.is("9 those behind count for nothing", x.trial(0, 0, 1), 1);
        DUE.is("9 those behind count for nothing", x.trial(0, 0, 0), 71);
        Due.bytes(x, 0, 0, 0, 1, 0, 0, 0, 1);
        DUE.is("9 one that is not all there counts for nothing", x.trial(0, 0, 1), 1);
    }

    private static void promise9Then() {
        SkinOfTeeth x = many(2);
        x.mend(0, 8, 3);
        x.say(0, 13);
        x.say(0, 13);
        x.row(0, 0, 0);
        DUE.is("9 without sayings: worth as now", x.trial(0, 0, 0), x.of(0, 11));
        DUE.is("9 without sayings: lies as now", x.trial(0, 0, 1), 2);
        Due.bytes(x, 0, 0, 0, 1, 0, 0, 0, 0, 9, 0, 0, 1, 0);
        DUE.is("9 lies in all: two ahead, two in it", x.trial(0, 0, 1), 4);
        DUE.is("9 worth then: 68 flakes but two, and 6", x.trial(0, 0, 0), 72);
        DUE.is("9 the other one", x.trial(0, 1, 0) + x.trial(0, 1, 1), 72);
        x.year();
        DUE.is("9 lies in all, in a new year", x.trial(0, 0, 1), 2);
        x.mend(0, 10, 0);
        DUE.is("9 worth then, by gold of now", x.trial(0, 0, 0), 66);
        x.mend(0, 9, 1);
        DUE.is("9 what is so now", x.trial(0, 0, 1), 1);
        DUE.is("9 nothing of it is told in deed", x.of(0, 12) + x.led(0) - x.led(1), 0);
    }

    private static void promise9Fifteen() {
        SkinOfTeeth x = many(1);
        x.row(0, 0, 60);
        for (int k = 0; k < 15; k++) {
            x.put(0, 4 * k + 2, 1);
            x.put(0, 4 * k + 3, k % 10);
        }
        DUE.is("9 fifteen lies", x.trial(0, 0, 1), 15);
        DUE.is("9 by 1, 1, 2, 2, 3, 3, 4, 4, 5, 5 and 1, 1, 2, 2, 3", x.trial(0, 0, 0), 72 - 30 - 9);
    }

    private static void promise10() {
        SkinOfTeeth x = many(3);
        x.row(0, 0, 0);
        for (int ot : new int[] {-1, -10, 8, 9, 18, 19, 28, 29, 30, 37, 70, MIN, MAX, 128}) {
            DUE.is("10 ot " + ot, x.tooth(0, ot), -1);
        }
        for (int ot : new int[] {0, 7, 10, 17, 20, 27}) {
            DUE.is("10 ot " + ot, x.tooth(0, ot), 9);
        }
        SkinOfTeeth y = many(7);
        y.row(0, 0, 0);
        y.mend(6, 7, 1);
        DUE.is("10 the last one's last tooth", y.tooth(0, 67), 1);
        DUE.is("10 beyond it", y.tooth(0, 68), -1);
        DUE.is("10 beyond it", y.tooth(0, 70), -1);
        DUE.is("10 nobody", court().tooth(0, 0), -1);
    }

    private static void promise10Teeth() {
        SkinOfTeeth x = court(1, 2, 3, 4, 5, 6, 7);
        for (int one = 0; one < 7; one++) {
            for (int t = 0; t < 8; t++) {
                x.mend(one, t, (one + t) % 10);
            }
        }
        Due.bytes(x, 0, 6, 0, 1, 7, 0, 0, 1, 9);
        for (int one = 0; one < 7; one++) {
            for (int t = 0; t < 8; t++) {
                int off = one == 6 && t == 7 ? 3 : one == 6 && t == 0 ? 1 : one == 0 && t == 1 ? 1 : one == 0 && t == 2 ? 2 : 0;
                off += one == 0 && t == 3 ? 2 : 0;
                DUE.is("10 tooth " + one + " " + t, x.tooth(0, 10 * one + t), (one + t) % 10 - off);
            }
        }
        DUE.is("10 as it is now", x.of(6, 7), 3);
    }

    private static void promise11() {
        SkinOfTeeth x = court(0);
        x.mend(0, 7, 1);
        x.row(0, 0, 60);
        DUE.is("11 nobody", x.gone(0), -2);
        for (int k = 0; k < 15; k++) {
            x.put(0, 4 * k + 2, 1);
            x.put(0, 4 * k + 3, 7);
            DUE.is("11 behind saying " + k, x.gone(0), k);
            x.put(0, 4 * k + 2, 0);
        }
        x.put(0, 58, 1);
        Due.law(x, "0");
        DUE.is("11 a lie that takes nothing", x.gone(0), -2);
        Due.law(x, "1");
        DUE.is("11 the fifteenth", x.gone(0), 14);
        x.mend(0, 8, 128);
        DUE.is("11 a capped tooth", x.gone(0), -2);
        x.mend(0, 7, 0);
        DUE.is("11 gone with a cap, behind a truth", x.gone(0), 0);
        x.row(0, 0, 3);
        DUE.is("11 no sayings", x.gone(0), -2);
        DUE.is("11 no people", emptyRow(court()).gone(0), -2);
    }

    private static SkinOfTeeth emptyRow(SkinOfTeeth x) {
        x.row(0, 0, 60);
        return x;
    }

    private static void promise11First() {
        SkinOfTeeth x = court(1, 1, 0);
        Due.law(x, "99");
        Due.bytes(x, 0, 0, 0, 0, 0, 1, 0, 1, 0, 0, 0, 1, 0, 2, 0, 0, 0);
        DUE.is("11 one who is gone but silent is none; then the first of several", x.gone(0), 1);
        x.put(0, 6, 0);
        DUE.is("11 the next", x.gone(0), 2);
        x.put(0, 10, 0);
        DUE.is("11 one who is gone ahead of it all", x.gone(0), 3);
        x.put(0, 12, 1);
        DUE.is("11 none", x.gone(0), -2);
        for (int shelf = 0; shelf < 6; shelf++) {
            Due.bytes(x, shelf, 0, 0, 0, 0, shelf < 3 ? 0 : 2, 0, 0, 0, shelf % 3 == 1 ? 1 : 0, 0, shelf % 3 == 0 ? 0 : 1, 0);
        }
        int[] due = {-2, 2, 2, 1, 1, 1};
        for (int shelf = 0; shelf < 6; shelf++) {
            DUE.is("11 shelf " + shelf, x.gone(shelf), due[shelf]);
        }
    }

    private static void promise12Arguments() {
        SkinOfTeeth x = many(1);
        Due.bytes(x, 0, 0, 0, 0, 0, 0, 9, 1, 0);
        for (int fact : new int[] {-1, 10, 11, MIN, MAX}) {
            DUE.is("12 fact " + fact, x.believed(0, fact), -1);
        }
        DUE.is("12 fact 0", x.believed(0, 0), 0);
        DUE.is("12 fact 9", x.believed(0, 9), 1);
        for (int fact = 1; fact < 9; fact++) {
            DUE.is("12 nobody spoke of " + fact, x.believed(0, fact), -2);
        }
        x.row(0, 0, 0);
        DUE.is("12 no sayings", x.believed(0, 0), -2);
        DUE.is("12 no people", emptyRow(court()).believed(0, 0), -2);
    }

    private static void promise12Alike() {
        SkinOfTeeth x = court(1, 1);
        Due.law(x, "0");
        Due.bytes(x, 0, 0, 5, 1, 0, 1, 5, 0, 0);
        DUE.is("12 8 against 8", x.believed(0, 5), -2);
        x.mend(0, 3, 2);
        DUE.is("12 9 against 8", x.believed(0, 5), 1);
        x.mend(0, 3, 0);
        DUE.is("12 7 against 8", x.believed(0, 5), 0);
        x.mend(0, 8, 1);
        DUE.is("12 7 and 3 for a cap", x.believed(0, 5), 1);
        x.mend(0, 10, 1);
        DUE.is("12 7 and 1 for a cap", x.believed(0, 5), -2);
        x.mend(0, 10, 0);
        DUE.is("12 7 and 0 for a cap", x.believed(0, 5), 0);
        SkinOfTeeth y = court(0, 0);
        Due.bytes(y, 0, 0, 5, 1, 0);
        DUE.is("12 one who is worth nothing, alone", y.believed(0, 5), -2);
        y.mend(0, 8, 1);
        DUE.is("12 gone, but worth a cap", y.believed(0, 5), 1);
        Due.bytes(y, 0, 1, 5, 0, 0);
        DUE.is("12 one who is worth nothing, alone", y.believed(0, 5), -2);
        y.mend(1, 0, 1);
        DUE.is("12 worth 1", y.believed(0, 5), 0);
    }

    private static void promise12Last() {
        SkinOfTeeth x = court(1, 2);
        Due.law(x, "0");
        Due.bytes(x, 0, 1, 5, 1, 0, 0, 5, 0, 0, 1, 5, 0, 0);
        DUE.is("12 by what each said last", x.believed(0, 5), 0);
        Due.bytes(x, 0, 1, 5, 1, 0, 0, 5, 0, 0, 1, 6, 0, 0);
        DUE.is("12 of another fact", x.believed(0, 5), 1);
        Due.bytes(x, 0, 1, 5, 1, 0, 1, 5, 1, 0, 0, 5, 0, 0, 0, 5, 0, 0, 0, 5, 0, 0);
        DUE.is("12 said thrice counts once", x.believed(0, 5), 1);
        SkinOfTeeth y = court(1);
        y.row(0, 0, 60);
        y.put(0, 58, 1);
        DUE.is("12 the fifteenth is the last", y.believed(0, 0), 1);
    }

    private static void promise12AtTheEnd() {
        SkinOfTeeth x = court(2, 1);
        Due.law(x, "9");
        Due.bytes(x, 0, 0, 5, 1, 0, 1, 5, 0, 0);
        DUE.is("12 7 left against 8", x.believed(0, 5), 0);
        Due.bytes(x, 0, 0, 5, 0, 0, 1, 5, 1, 0);
        DUE.is("12 16 against 0", x.believed(0, 5), 0);
        Due.bytes(x, 0, 1, 5, 0, 0, 0, 5, 1, 0, 1, 6, 1, 0);
        DUE.is("12 7 against 0 by a later lie of another fact", x.believed(0, 5), 1);
        x.mend(5, 9, 1);
        Due.bytes(x, 0, 0, 5, 1, 0, 1, 5, 0, 0);
        DUE.is("12 16 against 0", x.believed(0, 5), 1);
    }

    private static void promise12Many() {
        SkinOfTeeth x = many(7);
        Due.law(x, "0");
        x.row(0, 0, 28);
        for (int yes = 0; yes <= 7; yes++) {
            for (int one = 0; one < 7; one++) {
                x.put(0, 4 * one, one);
                x.put(0, 4 * one + 1, 9);
                x.put(0, 4 * one + 2, one < yes ? 1 : 0);
            }
            DUE.is("12 " + yes + " of seven", x.believed(0, 9), yes > 3 ? 1 : 0);
        }
    }

    private static void promise13Arguments() {
        SkinOfTeeth x = many(1);
        x.row(0, 0, 0);
        for (int what : new int[] {-1, 4, 5, MIN, MAX}) {
            DUE.is("13 what " + what, x.told(0, what), -1);
        }
        int[] due = {0, 0, 1023, 1};
        int[] ofNobody = {0, 0, 1023, 0};
        SkinOfTeeth y = emptyRow(court());
        for (int what = 0; what < 4; what++) {
            DUE.is("13 no sayings, what " + what, x.told(0, what), due[what]);
            DUE.is("13 no people, what " + what, y.told(0, what), ofNobody[what]);
        }
    }

    /** A row of ten sayings, one of each fact. */
    private static void ten(SkinOfTeeth x, int one, int said) {
        x.row(0, 0, 40);
        for (int fact = 0; fact < 10; fact++) {
            x.put(0, 4 * fact, one);
            x.put(0, 4 * fact + 1, fact);
            x.put(0, 4 * fact + 2, said);
        }
    }

    private static void promise13Wrong() {
        SkinOfTeeth x = many(1);
        ten(x, 0, 1);
        DUE.is("13 all ten wrong", x.told(0, 0), 10);
        DUE.is("13 none unheard", x.told(0, 2), 0);
        for (int fact = 0; fact < 10; fact++) {
            x.mend(fact, 9, 1);
            DUE.is("13 fewer wrong", x.told(0, 0), 9 - fact);
        }
        ten(x, 0, 0);
        DUE.is("13 all ten wrong the other way", x.told(0, 0), 10);
        Due.law(x, "99");
        DUE.is("13 what is not believed is not wrong", x.told(0, 0), 0);
        SkinOfTeeth y = many(2);
        Due.law(y, "0");
        Due.bytes(y, 0, 0, 9, 1, 0, 1, 9, 0, 0);
        DUE.is("13 alike is not wrong", y.told(0, 0), 0);
        y.mend(0, 8, 1);
        DUE.is("13 fact 9 is wrong", y.told(0, 0), 1);
    }

    private static void promise13Liars() {
        SkinOfTeeth x = many(7);
        IntConsumer all = said -> {
            x.row(0, 0, 28);
            for (int one = 0; one < 7; one++) {
                x.put(0, 4 * one, one);
                x.put(0, 4 * one + 1, one);
                x.put(0, 4 * one + 2, said);
            }
        };
        all.accept(1);
        DUE.is("13 all seven lie", x.told(0, 1), 127);
        for (int one = 0; one < 7; one++) {
            x.mend(one, 9, 1);
            DUE.is("13 one after the other tells the truth", x.told(0, 1), 127 >> one + 1 << one + 1);
        }
        all.accept(0);
        DUE.is("13 all seven lie the other way", x.told(0, 1), 127);
        Due.law(x, "0");
        DUE.is("13 lies that take nothing", x.told(0, 1), 127);
        x.row(0, 0, 0);
        x.say(0, 0);
        DUE.is("13 a lie ahead of it is none in it", x.told(0, 1), 0);
        Due.bytes(x, 0, 6, 0, 0, 0, 6, 0, 1, 0);
        DUE.is("13 one who took it back is a liar", x.told(0, 1), 64);
    }

    private static void promise13Unheard() {
        for (int fact = 0; fact < 10; fact++) {
            SkinOfTeeth x = court(0);
            Due.bytes(x, 0, 0, fact, fact % 2, 0);
            DUE.is("13 all but " + fact, x.told(0, 2), 1023 - (1 << fact));
        }
        SkinOfTeeth x = many(1);
        Due.bytes(x, 0, 0, 9, 0, 0, 0, 10, 0, 0, 0, 1, 0, 0);
        DUE.is("13 what may not be and what is behind are not heard", x.told(0, 2), 511);
    }

    private static void promise13Honest() {
        SkinOfTeeth x = many(7);
        Due.bytes(x, 0, 6, 0, 1, 0);
        DUE.is("13 all but the last", x.told(0, 3), 63);
        x.mend(6, 8, 255);
        DUE.is("13 one whose teeth are all capped", x.told(0, 3), 127);
        x.mend(6, 8, 254);
        DUE.is("13 all but the last", x.told(0, 3), 63);
        x.mend(6, 0, 0);
        for (int t = 1; t < 8; t++) {
            x.mend(6, t, 5);
        }
        DUE.is("13 nothing that could come off", x.told(0, 3), 127);
        Due.bytes(x, 0, 0, 0, 0, 0, 1, 0, 0, 9);
        DUE.is("13 truths", x.told(0, 3), 127);
        Due.bytes(x, 0, 0, 0, 1, 0, 0, 0, 0, 9);
        DUE.is("13 taken back, but the flake is off", x.told(0, 3), 126);
    }
}
