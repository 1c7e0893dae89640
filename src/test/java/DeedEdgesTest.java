/** Promises 24 to 32 at their edges: sayings in deed, teeth lent, caps, years, the image, changes undone. */
public final class DeedEdgesTest {
    private static final Due DUE = new Due("DeedEdgesTest");
    private static final int MIN = Integer.MIN_VALUE;
    private static final int MAX = Integer.MAX_VALUE;

    public static void main(String[] args) {
        promise24Arguments();
        promise24WhereItBegins();
        promise24OnceRound();
        promise24Caps();
        promise24Gone();
        promise24Truths();
        promise25Arguments();
        promise25EveryTooth();
        promise26Arguments();
        promise26AllEight();
        promise27();
        promise28Arguments();
        promise28WhatIsLed();
        promise29And30None();
        promise29And30Kept();
        promise29And30Newcomers();
        promise29And30Again();
        promise31And32None();
        promise31And32EveryKind();
        promise31Forty();
        promise32Forty();
        promise32NoOtherBehind();
        promise31And32AndDeeds();
        DUE.end();
    }

    private static SkinOfTeeth court(int... flakes) {
        SkinOfTeeth x = new SkinOfTeeth();
        for (int f : flakes) {
            x.person(f);
        }
        return x;
    }

    private static void teeth(String about, SkinOfTeeth x, int one, int... due) {
        for (int t = 0; t < 8; t++) {
            DUE.is(about + ": tooth " + t, x.of(one, t), due[t]);
        }
    }

    private static void promise24Arguments() {
        for (int fvz = -30; fvz <= 1100; fvz++) {
            SkinOfTeeth x = court(0, 0);
            boolean well = fvz >= 0 && fvz / 100 <= 9 && fvz / 10 % 10 <= 1;
            DUE.is("24 fvz " + fvz, x.say(1, fvz), well ? 0 : -1);
            DUE.is("24 a saying", x.led(0), well ? 1 : 0);
            DUE.is("24 a lie", x.led(1), well && fvz / 10 % 10 == 1 ? 1 : 0);
        }
        SkinOfTeeth x = court(9, 9);
        for (int one : new int[] {-1, 2, 7, MIN, MAX}) {
            DUE.is("24 one " + one, x.say(one, 10), -1);
        }
        DUE.all("24 fvz far beyond", -1, () -> x.say(0, MIN), () -> x.say(0, MAX), () -> x.say(0, 10010));
        DUE.is("24 nobody", court().say(0, 0), -1);
        DUE.is("24 nothing was said", x.led(0) + x.led(1) + x.led(2), 0);
    }

    private static void promise24WhereItBegins() {
        for (int size = 0; size <= 9; size++) {
            SkinOfTeeth x = court(9, 9);
            DUE.is("24 size " + size, x.say(1, 910 + size), 1 + size / 2);
            for (int t = 0; t < 8; t++) {
                DUE.is("24 tooth " + t + " by size " + size, x.of(1, t), t == size % 8 ? 8 - size / 2 : 9);
            }
            DUE.is("24 one lie", x.of(1, 12), 1);
            DUE.is("24 the other one", x.of(0, 11) + x.of(0, 12), 72);
        }
    }

    private static void promise24OnceRound() {
        SkinOfTeeth x = court(2);
        Due.law(x, "5");
        DUE.is("24 each as many as it has", x.say(0, 16), 5);
        teeth("24 behind 7 comes 0", x, 0, 1, 2, 2, 2, 2, 2, 0, 0);
        Due.law(x, "10");
        DUE.is("24 empty ones give none", x.say(0, 16), 10);
        teeth("24 on to tooth 5", x, 0, 0, 0, 0, 0, 0, 1, 0, 0);
        DUE.is("24 once round, the rest is let be", x.say(0, 16), 1);
        teeth("24 none left", x, 0, 0, 0, 0, 0, 0, 0, 0, 0);
        SkinOfTeeth y = court(9);
        Due.law(y, "72");
        DUE.is("24 just all", y.say(0, 13), 72);
        SkinOfTeeth z = court(9);
        Due.law(z, "71");
        DUE.is("24 all but one", z.say(0, 13), 71);
        DUE.is("24 the one ahead of the first", z.of(0, 2), 1);
        SkinOfTeeth w = court(9);
        Due.law(w, "99");
        DUE.is("24 more than all", w.say(0, 19), 72);
        DUE.is("24 gone", w.count(1), 1);
    }

    private static void promise24Caps() {
        for (int capped = 0; capped < 8; capped++) {
            SkinOfTeeth x = court(2);
            x.mend(0, 8, 1 << capped);
            Due.law(x, "15");
            DUE.is("24 but one that is capped", x.say(0, 15), 14);
            for (int t = 0; t < 8; t++) {
                DUE.is("24 tooth " + t, x.of(0, t), t == capped ? 2 : 0);
            }
        }
        SkinOfTeeth x = court(2);
        x.mend(0, 8, 255);
        DUE.is("24 all capped", x.say(0, 10), 0);
        DUE.is("24 a lie all the same", x.of(0, 12) + x.led(1), 2);
        x.mend(0, 8, 127);
        DUE.is("24 round to the only one", x.say(0, 10), 1);
        DUE.is("24 tooth 7", x.of(0, 7), 1);
        Due.law(x, "c*2");
        DUE.is("24 c of the tooth it begins at", x.say(0, 10), 1);
        DUE.is("24 c of the tooth it begins at", x.say(0, 17), 0);
    }

    private static void promise24Gone() {
        SkinOfTeeth x = court(0);
        DUE.is("24 one who is gone lies", x.say(0, 10), 0);
        DUE.is("24 it is a lie", x.of(0, 12), 1);
        DUE.is("24 led as one", x.led(1), 1);
        DUE.is("24 no flakes lost", x.led(2), 0);
        SkinOfTeeth y = court(9);
        Due.law(y, "0");
        DUE.is("24 a lie that takes none", y.say(0, 19), 0);
        DUE.is("24 it is a lie", y.of(0, 12), 1);
    }

    private static void promise24Truths() {
        for (int fact = 0; fact <= 9; fact++) {
            SkinOfTeeth x = court(9);
            DUE.is("24 not so", x.say(0, 100 * fact), 0);
            DUE.is("24 not so: a lie", x.say(0, 100 * fact + 10), 1);
            x.mend(fact, 9, 1);
            DUE.is("24 so", x.say(0, 100 * fact + 19), 0);
            DUE.is("24 so: a lie", x.say(0, 100 * fact), 1);
            DUE.is("24 four sayings", x.led(0), 4);
            DUE.is("24 two lies", x.led(1), 2);
            Due.law(x, "f");
            DUE.is("24 f of the law", x.say(0, 100 * fact + 4), fact);
        }
    }

    private static void promise25Arguments() {
        for (int people = 0; people <= 7; people++) {
            for (int ab = -12; ab <= 110; ab++) {
                SkinOfTeeth x = new SkinOfTeeth();
                for (int i = 0; i < people; i++) {
                    x.person(i + 1);
                }
                int a = ab / 10;
                int b = ab % 10;
                boolean well = ab >= 0 && a < people && b < people && a != b;
                DUE.is("25 ab " + ab + " of " + people, x.lend(ab, 7), well ? b + 1 : -1);
                DUE.is("25 a lending", x.led(3), well ? 1 : 0);
            }
        }
        SkinOfTeeth x = court(1, 2);
        for (int t : new int[] {-1, 8, 9, MIN, MAX}) {
            DUE.is("25 tooth " + t, x.lend(1, t), -1);
        }
        DUE.all("25 ab far beyond", -1, () -> x.lend(MIN, 0), () -> x.lend(MAX, 0), () -> x.lend(1001, 0));
        DUE.is("25 no lending", x.led(3), 0);
    }

    private static void promise25EveryTooth() {
        for (int t = 0; t < 8; t++) {
            for (int caps = 0; caps < 4; caps++) {
                SkinOfTeeth x = court(2, 5, 7);
                x.mend(0, 8, (caps & 1) << t);
                x.mend(2, 8, caps >> 1 << t);
                DUE.is("25 flakes a has then", x.lend(2, t), 7);
                DUE.is("25 flakes b has then", x.of(2, t), 2);
                DUE.is("25 caps a has then", x.of(0, 8), caps >> 1 << t);
                DUE.is("25 caps b has then", x.of(2, 8), (caps & 1) << t);
                DUE.is("25 the teeth beside it", x.of(0, (t + 1) % 8) + x.of(2, (t + 7) % 8), 9);
                DUE.is("25 the one between", x.of(1, t), 5);
                DUE.is("25 back again", x.lend(20, t), 7);
                DUE.is("25 as it was", x.of(0, t) + 10 * x.of(0, 8), 2 + 10 * ((caps & 1) << t));
            }
        }
    }

    private static void promise26Arguments() {
        SkinOfTeeth x = court(1, 1);
        for (int t : new int[] {-1, 8, 9, MIN, MAX}) {
            DUE.is("26 tooth " + t, x.cap(0, t), -1);
        }
        for (int one : new int[] {-1, 2, 7, MIN, MAX}) {
            DUE.is("26 one " + one, x.cap(one, 0), -1);
        }
        DUE.is("26 nobody", court().cap(0, 0), -1);
        DUE.is("26 none was set", x.led(4) + x.of(0, 8) + x.of(1, 8), 0);
        x.mend(1, 8, 255);
        DUE.is("26 BAD ahead of STATE", x.cap(1, 8), -1);
        DUE.is("26 BAD ahead of STATE", x.cap(1, -1), -1);
        DUE.is("26 STATE", x.cap(1, 7), -5);
    }

    private static void promise26AllEight() {
        SkinOfTeeth x = court(1, 1);
        for (int t = 0; t < 8; t++) {
            DUE.is("26 how many it has then", x.cap(1, 7 - t), t + 1);
            DUE.is("26 it is capped", x.cap(1, 7 - t), -5);
            DUE.is("26 which", x.of(1, 8), 255 >> 7 - t << 7 - t);
        }
        for (int t = 0; t < 8; t++) {
            DUE.is("26 all are capped", x.cap(1, t), -5);
        }
        DUE.is("26 eight were set", x.led(4), 8);
        DUE.is("26 none of the other one's", x.of(0, 8), 0);
        DUE.is("26 worth", x.of(1, 11), 8 + 24);
        x.mend(1, 8, 254);
        DUE.is("26 one is off again", x.cap(1, 0), 8);
    }

    private static void promise27() {
        SkinOfTeeth x = court();
        DUE.is("27 nobody", x.year(), 0);
        DUE.is("27 a year all the same", x.led(5), 1);
        for (int i = 0; i < 7; i++) {
            x.person(9);
        }
        DUE.is("27 no lies", x.year(), 0);
        for (int one = 0; one < 7; one++) {
            for (int i = 0; i <= one; i++) {
                x.say(one, 10);
                x.say(one, 0);
            }
        }
        DUE.is("27 all lies of all seven", x.year(), 28);
        for (int one = 0; one < 7; one++) {
            DUE.is("27 nobody has told one", x.of(one, 12), 0);
        }
        DUE.is("27 none since", x.year(), 0);
        x.say(6, 10);
        DUE.is("27 one since the latest", x.year(), 1);
        DUE.is("27 years", x.led(5), 5);
        DUE.is("27 lies led go on", x.led(1), 29);
        DUE.is("27 flakes stay off", x.of(6, 11), 72 - 8);
    }

    private static void promise28Arguments() {
        for (int what : new int[] {-1, 6, 7, MIN, MAX}) {
            DUE.is("28 led " + what, court(9).led(what), -1);
        }
        for (int what = 0; what <= 5; what++) {
            DUE.is("28 led " + what, court(9).led(what), 0);
        }
    }

    private static void leds(String about, SkinOfTeeth x, int... due) {
        for (int what = 0; what < 6; what++) {
            DUE.is(about + ": led " + what, x.led(what), due[what]);
        }
    }

    private static void promise28WhatIsLed() {
        SkinOfTeeth x = court(1, 1);
        x.say(0, 0);
        leds("28 a truth", x, 1, 0, 0, 0, 0, 0);
        x.say(0, 19);
        leds("28 a lie", x, 2, 1, 5, 0, 0, 0);
        x.say(0, 19);
        leds("28 a lie of one who has but three left", x, 3, 2, 8, 0, 0, 0);
        x.lend(1, 0);
        leds("28 a lending", x, 3, 2, 8, 1, 0, 0);
        x.cap(0, 0);
        leds("28 a cap", x, 3, 2, 8, 1, 1, 0);
        x.year();
        leds("28 a year", x, 3, 2, 8, 1, 1, 1);
        x.say(2, 0);
        x.lend(0, 0);
        x.cap(0, 0);
        x.mend(0, 8, 255);
        leds("28 what is refused, and changes", x, 3, 2, 8, 1, 1, 1);
        Due.bytes(x, 0, 1, 0, 1, 0);
        x.trial(0, 0, 0);
        x.left(1, 0);
        x.drawn(1, 360, 0);
        leds("28 what is in thought", x, 3, 2, 8, 1, 1, 1);
    }

    private static void promise29And30None() {
        SkinOfTeeth x = court(9);
        x.say(0, 10);
        DUE.is("30 none", x.back(), -5);
        DUE.is("30 as it was", x.of(0, 11) + x.led(0), 72);
        DUE.is("29 of a court with a saying", x.image(), 1);
        DUE.is("30 at once", x.back(), 1);
        SkinOfTeeth y = court();
        DUE.is("29 of a court of nobody", y.image(), 0);
        DUE.is("30 to a court of nobody", y.back(), 0);
    }

    private static void promise29And30Kept() {
        SkinOfTeeth x = court(9, 8, 7, 6, 5, 4, 3);
        x.mend(6, 8, 128);
        x.say(6, 10);
        x.say(6, 0);
        x.lend(1, 0);
        x.cap(0, 3);
        x.year();
        x.say(6, 11);
        DUE.is("29 sayings", x.image(), 3);
        for (int one = 0; one < 7; one++) {
            x.mend(one, 8, 85);
            x.say(one, 19);
            x.say(one, 10);
        }
        x.lend(56, 7);
        x.year();
        x.cap(3, 1);
        x.mend(0, 10, 9);
        x.mend(9, 9, 1);
        DUE.is("30 sayings", x.back(), 3);
        leds("30 laid back", x, 3, 2, 2, 1, 1, 1);
        teeth("30 the first one", x, 0, 8, 9, 9, 9, 9, 9, 9, 9);
        teeth("30 the second one", x, 1, 9, 8, 8, 8, 8, 8, 8, 8);
        teeth("30 the last one", x, 6, 2, 2, 3, 3, 3, 3, 3, 3);
        DUE.is("30 caps of the first", x.of(0, 8), 8);
        DUE.is("30 caps of the last", x.of(6, 8), 128);
        DUE.is("30 lies of the last", x.of(6, 12), 1);
        DUE.is("30 lies of the first", x.of(0, 12), 0);
        DUE.is("30 gold is not in it", x.of(0, 10), 9);
        DUE.is("30 so is not in it", x.of(9, 9), 1);
        DUE.is("30 changes are not in it", x.count(3), 10);
        x.undo();
        x.undo();
        DUE.is("30 undone: caps as they were ahead of the change", x.undo(), 7);
        DUE.is("30 the last one's", x.of(6, 8), 128);
    }

    private static void promise29And30Newcomers() {
        SkinOfTeeth x = court(9);
        x.say(0, 10);
        x.image();
        x.say(0, 10);
        for (int i = 1; i < 7; i++) {
            x.person(i);
            x.say(i, 15);
            x.cap(i, i);
        }
        DUE.is("30 sayings", x.back(), 1);
        DUE.is("30 those of then", x.of(0, 0), 8);
        DUE.is("30 lies of those of then", x.of(0, 12), 1);
        for (int i = 1; i < 7; i++) {
            DUE.is("30 newcomers' flakes as they are", x.of(i, 5), Math.max(0, i - 3));
            DUE.is("30 newcomers' caps as they are", x.of(i, 8), 1 << i);
            DUE.is("30 newcomers have told no lie", x.of(i, 12), 0);
        }
        DUE.is("30 all stay", x.count(0), 7);
        DUE.is("30 lies of all", x.year(), 1);
        SkinOfTeeth y = court(9);
        y.image();
        Due.bytes(y, 0, 6, 1, 2, 3, 4, 5, 6, 7, 8);
        y.people(0, 0, 1);
        y.back();
        teeth("30 one from a row", y, 1, 1, 2, 3, 4, 5, 6, 7, 8);
        DUE.is("30 one from a row: caps", y.of(1, 8), 6);
    }

    private static void promise29And30Again() {
        SkinOfTeeth x = court(9);
        x.say(0, 10);
        x.image();
        for (int i = 0; i < 3; i++) {
            x.say(0, 17);
            DUE.is("30 as often as one likes", x.back(), 1);
            teeth("30 as often as one likes", x, 0, 8, 9, 9, 9, 9, 9, 9, 9);
        }
        x.say(0, 17);
        DUE.is("29 a later image", x.image(), 2);
        x.year();
        DUE.is("30 the latest image", x.back(), 2);
        DUE.is("30 lies", x.of(0, 12), 2);
        DUE.is("30 years", x.led(5), 0);
        teeth("30 the latest image", x, 0, 8, 9, 9, 9, 9, 9, 9, 5);
        x.person(4);
        x.image();
        x.say(1, 10);
        x.back();
        DUE.is("30 one who came is in a later image", x.of(1, 0), 4);
    }

    private static void promise31And32None() {
        SkinOfTeeth x = court(3);
        DUE.all("31 none", -5, () -> x.undo(), () -> x.redo());
        x.mend(0, 0, 3);
        x.mend(0, 8, 0);
        x.mend(0, 9, 0);
        x.mend(0, 10, 3);
        DUE.all("31 telling the same number is none", -5, () -> x.undo(), () -> x.redo());
        x.mend(0, 0, 10);
        x.mend(0, 11, 0);
        DUE.all("31 what is BAD is none", -5, () -> x.undo(), () -> x.redo());
        x.say(0, 10);
        x.cap(0, 1);
        x.year();
        x.image();
        x.back();
        DUE.all("31 deeds are none", -5, () -> x.undo(), () -> x.redo());
        DUE.is("31 a change", x.mend(0, 1, 4), 3);
        DUE.is("32 none is undone", x.redo(), -5);
        DUE.is("31 undone: none more", x.undo(), 0);
        DUE.is("31 none more", x.undo(), -5);
        DUE.is("32 done again: none more", x.redo(), 0);
        DUE.is("32 none more", x.redo(), -5);
        DUE.is("32 it is", x.of(0, 1), 4);
    }

    private static void promise31And32EveryKind() {
        int[][] kinds = {{0, 0, 3, 9}, {0, 7, 3, 0}, {6, 7, 3, 1}, {0, 8, 0, 255}, {6, 8, 0, 1}, {0, 9, 0, 1}, {9, 9, 0, 1},
            {0, 10, 3, 0}};
        SkinOfTeeth x = court(3, 3, 3, 3, 3, 3, 3);
        for (int[] k : kinds) {
            DUE.is("31 what it was", x.mend(k[0], k[1], k[3]), k[2]);
        }
        for (int i = kinds.length - 1; i >= 0; i--) {
            DUE.is("31 the latest first", x.undo(), i);
            DUE.is("31 as it was", x.of(kinds[i][0], kinds[i][1]), kinds[i][2]);
            DUE.is("31 the one ahead is still so", i == 0 ? 0 : x.of(kinds[i - 1][0], kinds[i - 1][1]), i == 0 ? 0 : kinds[i - 1][3]);
        }
        for (int i = 0; i < kinds.length; i++) {
            DUE.is("32 as it was done", x.redo(), kinds.length - 1 - i);
            DUE.is("32 as it became", x.of(kinds[i][0], kinds[i][1]), kinds[i][3]);
            DUE.is("32 may be undone", x.count(3), i + 1);
        }
    }

    private static void promise31Forty() {
        for (int changes : new int[] {39, 40, 41, 42, 80, 81}) {
            SkinOfTeeth x = court(0);
            for (int i = 1; i <= changes; i++) {
                x.mend(0, 8, i);
            }
            int kept = Math.min(40, changes);
            DUE.is("31 kept of " + changes, x.count(3), kept);
            for (int i = 1; i <= kept; i++) {
                DUE.is("31 undo of " + changes, x.undo(), kept - i);
                DUE.is("31 it is", x.of(0, 8), changes - i);
            }
            DUE.is("31 no more of " + changes, x.undo(), -5);
            DUE.is("31 the oldest stay", x.of(0, 8), changes - kept);
        }
    }

    private static void promise32Forty() {
        SkinOfTeeth x = court(0);
        for (int i = 1; i <= 41; i++) {
            x.mend(0, 8, i);
        }
        for (int i = 0; i < 40; i++) {
            x.undo();
        }
        for (int i = 0; i < 40; i++) {
            DUE.is("32 redo", x.redo(), 39 - i);
            DUE.is("32 it is", x.of(0, 8), i + 2);
        }
        DUE.is("32 no more", x.redo(), -5);
        DUE.is("32 forty may be undone", x.count(3), 40);
        x.undo();
        x.undo();
        x.mend(0, 0, 5);
        DUE.is("32 thirty-eight and one", x.count(3), 39);
        x.mend(0, 0, 6);
        DUE.is("32 forty", x.count(3), 40);
        x.mend(0, 0, 7);
        DUE.is("32 forty: the oldest is let go", x.count(3), 40);
        for (int i = 0; i < 3; i++) {
            x.undo();
        }
        DUE.is("32 flakes", x.of(0, 0), 0);
        DUE.is("32 caps", x.of(0, 8), 39);
        for (int i = 0; i < 37; i++) {
            x.undo();
        }
        DUE.is("32 no more", x.undo(), -5);
        DUE.is("32 the oldest stay", x.of(0, 8), 2);
    }

    private static void promise32NoOtherBehind() {
        SkinOfTeeth x = court(3);
        x.mend(0, 0, 4);
        x.mend(0, 0, 5);
        x.undo();
        x.undo();
        x.mend(0, 0, 3);
        x.mend(0, 0, 10);
        x.say(0, 13);
        x.cap(0, 5);
        x.year();
        DUE.is("32 no other change came behind", x.redo(), 1);
        DUE.is("32 it is", x.of(0, 0), 4);
        x.mend(0, 1, 9);
        DUE.is("32 another came behind", x.redo(), -5);
        DUE.is("32 two may be undone", x.count(3), 2);
        DUE.is("31 the other", x.undo(), 1);
        DUE.is("32 the other again", x.redo(), 0);
        DUE.is("32 it is", x.of(0, 1), 9);
        x.undo();
        x.undo();
        DUE.is("32 a change to what would be done again", x.mend(0, 0, 4), 3);
        DUE.is("32 it came behind", x.redo(), -5);
        DUE.is("31 it alone", x.undo(), 0);
    }

    private static void promise31And32AndDeeds() {
        SkinOfTeeth x = court(3, 5);
        x.mend(0, 0, 9);
        x.say(0, 10);
        DUE.is("31 behind a lie", x.undo(), 0);
        DUE.is("31 what it was ahead of the change", x.of(0, 0), 3);
        x.lend(1, 0);
        DUE.is("32 behind a lending", x.redo(), 0);
        DUE.is("32 what it became by the change", x.of(0, 0), 9);
        DUE.is("32 the other one's is as it was lent", x.of(1, 0), 3);
        x.mend(1, 8, 6);
        x.cap(1, 0);
        x.undo();
        DUE.is("31 caps as they were ahead of the change", x.of(1, 8), 0);
        leds("31 deeds stay led", x, 1, 1, 1, 1, 1, 0);
        x.image();
        x.redo();
        x.back();
        DUE.is("32 laid back", x.of(1, 8), 0);
        DUE.is("31 the change may be undone all the same", x.undo(), 1);
    }
}
