/** Promises 9 to 18: trials. */
public final class TrialTest {
    private static final Due DUE = new Due("TrialTest");

    public static void main(String[] args) {
        refusals();
        whichSayingsCount();
        worthAndLies();
        whereFlakesComeOff();
        gone();
        believed();
        told();
        have();
        haveForFewest();
        left();
        enough();
        jury();
        bribe();
        bribeOfMany();
        DUE.end();
    }

    /** People with so many flakes on each tooth. */
    private static SkinOfTeeth court(int... flakes) {
        SkinOfTeeth x = new SkinOfTeeth();
        for (int f : flakes) {
            x.person(f);
        }
        return x;
    }

    private static void refusals() {
        SkinOfTeeth x = court(3, 3);
        DUE.all("BAD ahead of -11", -1, () -> x.trial(6, -1, 0), () -> x.trial(-1, -1, 0), () -> x.trial(0, -2, 0),
            () -> x.trial(0, 2, 0), () -> x.trial(0, -1, 2), () -> x.trial(0, -1, -1), () -> x.tooth(6, 0),
            () -> x.tooth(0, 20), () -> x.tooth(0, 8), () -> x.tooth(0, 18), () -> x.tooth(0, -1), () -> x.gone(6),
            () -> x.gone(-1), () -> x.believed(0, 10), () -> x.believed(0, -1), () -> x.believed(6, 0),
            () -> x.told(0, 4), () -> x.told(0, -1), () -> x.told(6, 0), () -> x.have(0, 2, 0),
            () -> x.have(0, 100, 0), () -> x.have(0, -1, 0), () -> x.have(0, 0, 3), () -> x.have(0, 0, -1),
            () -> x.have(6, 0, 0), () -> x.bribe(0, 2, 0), () -> x.bribe(0, 101, 0), () -> x.bribe(0, -1, 0),
            () -> x.bribe(0, 0, 2), () -> x.bribe(0, 0, -1), () -> x.bribe(-1, 0, 0));
        DUE.all("-11", -11, () -> x.trial(0, -1, 0), () -> x.tooth(0, 17), () -> x.gone(0), () -> x.believed(0, 9),
            () -> x.told(0, 3), () -> x.have(0, 91, 2), () -> x.bribe(0, 91, 1));
        x.row(0, 2, 8);
        x.body(3);
        x.keep(1, 0);
        for (int shelf = 0; shelf < 2; shelf++) {
            int s = shelf;
            DUE.all("-12", -12, () -> x.trial(s, -1, 0), () -> x.tooth(s, 0), () -> x.gone(s),
                () -> x.believed(s, 0), () -> x.told(s, 0), () -> x.have(s, 0, 0), () -> x.bribe(s, 0, 0));
        }
    }

    private static void whichSayingsCount() {
        SkinOfTeeth x = court(3, 3);
        Due.bytes(x, 0, 1, 9, 1, 9, 0, 0, 0, 0, 1, 1);
        DUE.is("two whole ones", x.trial(0, -1, 1), 2);
        int[][] wrong = {{4, 2}, {4, -1}, {5, 10}, {5, -1}, {6, 2}, {6, -1}, {7, 10}, {7, -1}, {0, 7}};
        for (int[] w : wrong) {
            x.put(0, w[0], w[1]);
            DUE.is("one is not as it may be", x.trial(0, -1, 0), w[0] / 4);
            x.put(0, w[0], w[0] == 0 ? 1 : 0);
        }
        DUE.is("as before", x.trial(0, -1, 0), 2);
        x.row(0, 0, 60);
        DUE.is("fifteen", x.trial(0, -1, 0), 15);
        x.row(0, 0, 59);
        DUE.is("fourteen", x.trial(0, -1, 0), 14);
        x.row(0, 0, 3);
        DUE.is("none", x.trial(0, -1, 0), 0);
    }

    private static void worthAndLies() {
        SkinOfTeeth x = court(9, 9);
        x.mend(0, 8, 128);
        x.mend(2, 9, 1);
        x.say(0, 10);
        Due.bytes(x, 0, 0, 2, 0, 4, 0, 2, 1, 9, 1, 3, 1, 2, 0, 0, 1, 0);
        DUE.is("worth now", x.of(0, 11), 74);
        DUE.is("worth then", x.trial(0, 0, 0), 70);
        DUE.is("lies in all", x.trial(0, 0, 1), 3);
        DUE.is("worth of the other", x.trial(0, 1, 0), 70);
        DUE.is("lies of the other", x.trial(0, 1, 1), 1);
        DUE.is("in thought alone", x.of(0, 11), 74);
        DUE.is("in thought alone", x.of(0, 12), 1);
        DUE.is("in thought alone", x.led(0), 1);
        Due.law(x, "l*10");
        DUE.is("by the lies ahead", x.trial(0, 0, 0), 74 - 30);
        DUE.is("by the lies ahead", x.trial(0, 1, 0), 72);
    }

    private static void whereFlakesComeOff() {
        SkinOfTeeth x = court(4);
        Due.law(x, "10");
        x.mend(0, 8, 1);
        Due.bytes(x, 0, 0, 0, 1, 6);
        int[] due = {4, 2, 4, 4, 4, 4, 0, 0};
        for (int t = 0; t < 8; t++) {
            DUE.is("tooth " + t, x.tooth(0, t), due[t]);
        }
        Due.law(x, "99");
        for (int t = 0; t < 8; t++) {
            DUE.is("all but the capped one", x.tooth(0, t), t == 0 ? 4 : 0);
        }
        x.put(0, 3, 9);
        Due.law(x, "5");
        DUE.is("size 9 begins at 1", x.tooth(0, 1), 0);
        DUE.is("and goes on at 2", x.tooth(0, 2), 3);
        x.put(0, 3, 8);
        DUE.is("size 8 begins at 0, capped", x.tooth(0, 0), 4);
        DUE.is("so at 1", x.tooth(0, 1), 0);
        x.put(0, 2, 0);
        DUE.is("the truth takes none", x.tooth(0, 1), 4);
    }

    private static void gone() {
        SkinOfTeeth x = court(1, 0, 9);
        Due.law(x, "4");
        Due.bytes(x, 0, 0, 0, 1, 0, 2, 0, 1, 0, 0, 0, 0, 0, 0, 0, 1, 0, 1, 0, 0, 0);
        DUE.is("behind the second lie", x.gone(0), 3);
        x.put(0, 4, 1);
        DUE.is("one who is gone already speaks", x.gone(0), 1);
        x.put(0, 8, 3);
        x.put(0, 4, 2);
        DUE.is("nobody", x.gone(0), -2);
        DUE.is("truth of one who is gone", run(x, 1, 1, 0, 0, 0), 0);
    }

    private static int run(SkinOfTeeth x, int shelf, int... saying) {
        Due.bytes(x, shelf, saying);
        return x.gone(shelf);
    }

    private static void believed() {
        SkinOfTeeth x = court(5, 3, 3, 5);
        Due.law(x, "0");
        Due.bytes(x, 0, 0, 4, 1, 0, 1, 4, 0, 0, 2, 4, 0, 0, 3, 7, 1, 0, 1, 8, 1, 0, 2, 8, 0, 0);
        DUE.is("40 against 48", x.believed(0, 4), 0);
        DUE.is("one alone", x.believed(0, 7), 1);
        DUE.is("alike", x.believed(0, 8), -2);
        DUE.is("nobody", x.believed(0, 9), -2);
        x.mend(0, 8, 7);
        DUE.is("49 against 48", x.believed(0, 4), 1);
        x.mend(0, 10, 2);
        DUE.is("46 against 48", x.believed(0, 4), 0);
        Due.bytes(x, 1, 0, 4, 1, 0, 0, 4, 0, 0, 0, 4, 1, 0, 1, 4, 0, 0, 1, 4, 1, 0, 2, 4, 0, 0);
        DUE.is("what was said last", x.believed(1, 4), 1);
        Due.law(x, "99");
        x.mend(0, 8, 0);
        DUE.is("worth as it is at the end", x.believed(1, 4), 0);
    }

    private static void told() {
        SkinOfTeeth x = court(5, 3, 9);
        x.mend(1, 9, 1);
        Due.bytes(x, 0, 0, 0, 1, 0, 1, 1, 1, 0, 2, 2, 1, 2, 1, 3, 1, 0, 2, 3, 0, 0, 0, 1, 0, 0, 1, 1, 0, 0);
        DUE.is("wrong: 0, 1, 2", x.told(0, 0), 3);
        DUE.is("liars", x.told(0, 1), 7);
        DUE.is("unheard", x.told(0, 2), 1023 - 15);
        DUE.is("honest", x.told(0, 3), 0);
        x.put(0, 10, 0);
        DUE.is("wrong: 0, 1", x.told(0, 0), 2);
        DUE.is("liars", x.told(0, 1), 3);
        DUE.is("honest", x.told(0, 3), 4);
        Due.law(x, "0");
        DUE.is("liars that lost nothing", x.told(0, 1), 3);
        DUE.is("honest by worth", x.told(0, 3), 7);
        x.row(0, 0, 0);
        DUE.all("no sayings", 0, () -> x.told(0, 0), () -> x.told(0, 1));
        DUE.is("all unheard", x.told(0, 2), 1023);
        DUE.is("all honest", x.told(0, 3), 7);
    }

    private static void have() {
        SkinOfTeeth x = court(2, 5);
        x.row(0, 0, 0);
        DUE.is("the truth takes none", x.have(0, 0, 0), 0);
        DUE.is("the least number", x.have(0, 0, 1), 0);
        DUE.is("the least size", x.have(0, 0, 2), 0);
        DUE.is("a lie", x.have(0, 1, 0), 1);
        DUE.is("a lie's one", x.have(0, 1, 1), 0);
        DUE.is("a lie's size", x.have(0, 1, 2), 0);
        Due.bytes(x, 0, 0, 0, 0, 0);
        DUE.is("still", x.have(0, 0, 0), 0);
        DUE.is("still: nobody", x.have(0, 0, 1), -2);
        DUE.is("still: no size", x.have(0, 0, 2), -2);
        DUE.is("he himself turns", x.have(0, 1, 1), 0);
        Due.bytes(x, 0, 1, 0, 0, 0);
        DUE.is("only the greater one turns", x.have(0, 1, 1), 1);
        DUE.is("for one flake", x.have(0, 1, 0), 1);
        SkinOfTeeth y = court(2, 5, 5);
        Due.bytes(y, 0, 1, 0, 0, 0, 2, 0, 0, 0);
        Due.law(y, "40");
        DUE.is("none can", y.have(0, 1, 0), -2);
        DUE.is("none can", y.have(0, 1, 1), -2);
        DUE.is("none can", y.have(0, 1, 2), -2);
        DUE.is("in thought alone", y.of(1, 11), 40);
    }

    private static void haveForFewest() {
        SkinOfTeeth x = court(5, 5);
        Due.law(x, "z=7?2;z=9?2;20-z");
        x.row(0, 0, 0);
        DUE.is("two flakes", x.have(0, 1, 0), 2);
        DUE.is("one", x.have(0, 1, 1), 0);
        DUE.is("size", x.have(0, 1, 2), 7);
        x.mend(0, 7, 0);
        x.mend(0, 0, 0);
        x.mend(0, 1, 1);
        DUE.is("none there to come off the first", x.have(0, 1, 0), 2);
        Due.law(x, "w>39?1;z+3");
        DUE.is("the other's are fewer", x.have(0, 1, 0), 1);
        DUE.is("one", x.have(0, 1, 1), 1);
        DUE.is("size", x.have(0, 1, 2), 0);
        x.mend(0, 8, 255);
        DUE.is("a capped mouth loses none", x.have(0, 1, 0), 0);
        DUE.is("one", x.have(0, 1, 1), 0);
    }

    private static void left() {
        SkinOfTeeth x = court(2, 0, 9);
        DUE.is("16 by ones", x.left(0, 1), 16);
        DUE.is("16 by threes", x.left(0, 4), 6);
        DUE.is("gone already", x.left(1, 4), 0);
        DUE.is("72", x.left(2, 0), 72);
        DUE.all("left wrong", -1, () -> x.left(3, 0), () -> x.left(-1, 0), () -> x.left(0, -1), () -> x.left(0, 10));
        x.mend(0, 8, 16);
        DUE.is("never", x.left(0, 4), -2);
        x.mend(0, 4, 0);
        DUE.is("the capped tooth is empty", x.left(0, 4), 5);
        Due.law(x, "l%3=2");
        DUE.is("a third of them", x.left(0, 0), 42);
        Due.law(x, "l=98?99");
        DUE.is("by the 99th", x.left(2, 0), 99);
        Due.law(x, "l=99?99");
        DUE.is("not by 99", x.left(2, 0), -2);
        Due.law(x, "f?99;1");
        DUE.is("about fact 0", x.left(2, 0), 72);
        x.mend(0, 9, 1);
        DUE.is("as if it were otherwise", x.left(2, 0), 72);
        DUE.is("in thought alone", x.of(2, 12), 0);
    }

    private static void enough() {
        SkinOfTeeth x = court(1, 3, 3, 9);
        DUE.is("for 0 nobody", x.enough(0, 0), 0);
        DUE.is("for 0 nobody", x.enough(0, 1), 0);
        DUE.is("for 1 one", x.enough(1, 0), 1);
        DUE.is("the least bits", x.enough(1, 1), 1);
        DUE.is("for 9", x.enough(9, 1), 2);
        DUE.is("for 72", x.enough(72, 1), 8);
        DUE.is("for 73 two", x.enough(73, 0), 2);
        DUE.is("for 80", x.enough(80, 1), 9);
        DUE.is("for 81", x.enough(81, 1), 10);
        DUE.is("for 97 three", x.enough(97, 1), 11);
        DUE.is("for 128 all", x.enough(128, 0), 4);
        DUE.is("for 129 none", x.enough(129, 0), -2);
        DUE.is("for 129 none", x.enough(129, 1), -2);
        x.mend(0, 8, 1);
        DUE.is("caps count", x.enough(131, 1), 15);
        DUE.all("enough wrong", -1, () -> x.enough(-1, 0), () -> x.enough(1000, 0), () -> x.enough(0, 2),
            () -> x.enough(0, -1));
    }

    private static void jury() {
        SkinOfTeeth x = court(5, 1, 9, 5, 5);
        DUE.is("middling", x.jury(12), 0);
        DUE.is("middling", x.jury(201), 0);
        DUE.is("alike: 0 < 3", x.jury(301), 0);
        DUE.is("alike: 0 < 3", x.jury(302), 3);
        DUE.is("all alike", x.jury(430), 3);
        DUE.is("all alike", x.jury(34), 3);
        DUE.is("alike: 3 < 4", x.jury(142), 4);
        DUE.all("jury wrong", -1, () -> x.jury(-12), () -> x.jury(1000), () -> x.jury(5), () -> x.jury(512),
            () -> x.jury(151), () -> x.jury(11), () -> x.jury(101), () -> x.jury(110), () -> x.jury(125),
            () -> x.jury(1012));
    }

    private static void bribe() {
        SkinOfTeeth x = court(5, 3, 3);
        Due.law(x, "0");
        Due.bytes(x, 0, 1, 4, 0, 0, 0, 4, 0, 0, 2, 4, 1, 0, 2, 5, 1, 0);
        DUE.is("as it is", x.bribe(0, 40, 0), 0);
        DUE.is("as it is", x.bribe(0, 40, 1), 0);
        DUE.is("one", x.bribe(0, 41, 0), 1);
        DUE.is("the least of two", x.bribe(0, 41, 1), 1);
        DUE.is("nobody spoke of it", x.bribe(0, 61, 0), -2);
        DUE.is("nobody spoke of it", x.bribe(0, 60, 1), -2);
        x.mend(0, 0, 9);
        x.mend(0, 1, 9);
        x.mend(0, 2, 9);
        DUE.is("now the second", x.bribe(0, 41, 1), 2);
        DUE.is("in thought alone", x.led(0), 0);
        SkinOfTeeth y = court(5, 9);
        Due.law(y, "f=1?0;72");
        Due.bytes(y, 0, 1, 2, 0, 0, 1, 1, 0, 0, 0, 1, 1, 0);
        DUE.is("40 against 72", y.believed(0, 1), 0);
        DUE.is("a lie elsewhere makes him less", y.bribe(0, 11, 1), 1);
        DUE.is("it alone", y.bribe(0, 11, 0), 1);
        y.mend(2, 9, 1);
        DUE.is("he lies no more by it", y.believed(0, 1), 1);
        DUE.is("the truth elsewhere leaves him more", y.bribe(0, 10, 1), 1);
    }

    private static void bribeOfMany() {
        SkinOfTeeth x = court(5);
        x.row(0, 0, 40);
        DUE.is("ten: all say the same, the last counts", x.bribe(0, 1, 1), 512);
        x.row(0, 0, 44);
        DUE.is("eleven", x.bribe(0, 1, 1), -5);
        DUE.is("eleven, as it is", x.bribe(0, 0, 0), -5);
        x.put(0, 40, 1);
        DUE.is("ten, the eleventh is none", x.bribe(0, 1, 0), 1);
        SkinOfTeeth y = court(9, 9);
        Due.law(y, "f=0?0;l=9?99;0");
        Due.bytes(y, 0, 0, 0, 1, 0, 1, 0, 0, 0);
        DUE.is("alike", y.believed(0, 0), -2);
        DUE.is("one turned", y.bribe(0, 0, 1), 1);
        DUE.is("one turned", y.bribe(0, 1, 1), 2);
    }
}
