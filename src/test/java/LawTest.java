import java.util.Random;

/** Promise 7: the law, its faults and what it gives. */
public final class LawTest {
    private static final Due DUE = new Due("LawTest");

    public static void main(String[] args) {
        faults();
        aFaultyTextChangesNoLaw();
        theWholeTape();
        values();
        lines();
        names();
        drawnTexts();
        DUE.end();
    }

    private static void fault(String text, int place) {
        DUE.is("law " + text, Due.law(new SkinOfTeeth(), text), -100 - place);
    }

    private static void well(String text) {
        DUE.is("law " + text, Due.law(new SkinOfTeeth(), text), 1);
    }

    private static void faults() {
        fault("", 0);
        fault("1+", 2);
        fault("1++", 2);
        fault("x", 0);
        fault("Z", 0);
        fault("1x", 1);
        fault("zl", 1);
        fault("12345", 4);
        fault("1;", 2);
        fault("1;;", 2);
        fault(";", 0);
        fault("(1", 2);
        fault("(1))", 3);
        fault("()", 1);
        fault("1?", 2);
        fault("1?2?3", 3);
        fault("(1?2)", 2);
        fault("(1;2)", 2);
        fault("1<2<3", 3);
        fault("1<2=3", 3);
        fault("1 ", 1);
        fault(" 1", 0);
        fault("!", 1);
        fault("1!", 1);
        fault("1(2)", 1);
        fault("?", 0);
        fault(")", 0);
        fault("1||2", 2);
        fault("1;z?", 4);
        fault("1" + (char) 200, 1);
        fault("" + (char) 0, 0);
        fault("1+z;2+z;3+q", 10);
        fault("(((((((1", 6);
        fault("!!!!!!!1", 6);
        fault("-(-(-(-", 6);
        fault("-----(1", 7);
        fault("1+!!!!!!(1)", 8);
        well("((((((1))))))");
        well("!!!!!!1");
        well("!-!-!-z+((((((z))))))");
        well("1--1");
        well("(1<2)<3&1<2|2>1");
        well("1<2&1<2");
        well("0000");
        well("1?2;3?4;5?6;7");
        well("(((1))+((1)))*((((((2))))))");
    }

    private static void aFaultyTextChangesNoLaw() {
        SkinOfTeeth x = new SkinOfTeeth();
        x.person(9);
        DUE.is("a fault", Due.law(x, "7+"), -102);
        DUE.is("no text as yet", x.takes(0, 9), 5);
        DUE.is("the tape is empty", x.count(2), 0);
        Due.law(x, "7");
        DUE.is("the tape is empty", x.count(2), 0);
        DUE.is("a law", x.takes(0, 9), 7);
        DUE.is("a fault", Due.law(x, "8;9;*"), -104);
        DUE.is("the law of before", x.takes(0, 9), 7);
        DUE.is("nothing fed", x.law(), -100);
        DUE.is("the law of before", x.takes(0, 9), 7);
        Due.law(x, "6");
        DUE.is("a new law", x.takes(0, 9), 6);
    }

    private static void theWholeTape() {
        StringBuilder text = new StringBuilder("1");
        for (int i = 0; i < 59; i++) {
            text.append("+1");
        }
        SkinOfTeeth x = new SkinOfTeeth();
        x.person(9);
        DUE.is("119 bytes", Due.law(x, text.toString()), 1);
        DUE.is("sixty ones", x.takes(0, 0), 60);
        DUE.is("120 bytes, too early", Due.law(x, text + "+"), -220);
        DUE.is("120 bytes", Due.law(x, text + "1"), 1);
        DUE.is("fifty-nine ones and eleven", x.takes(0, 0), 70);
        StringBuilder lines = new StringBuilder("0?0");
        for (int i = 0; i < 29; i++) {
            lines.append(";0?0");
        }
        DUE.is("119 bytes of lines", Due.law(x, lines.toString()), 1);
        DUE.is("none counts", x.takes(0, 0), 0);
    }

    private static void gives(String text, int flakes) {
        SkinOfTeeth x = new SkinOfTeeth();
        x.person(9);
        DUE.is("law " + text, Due.law(x, text), 1);
        DUE.is("takes by " + text, x.takes(0, 57), flakes);
    }

    private static void values() {
        gives("1+2*3", 7);
        gives("(1+2)*3", 9);
        gives("9-3-2", 4);
        gives("8/4/2", 1);
        gives("8/2*4", 16);
        gives("2*7%4", 2);
        gives("7/2", 3);
        gives("-7/2+9", 6);
        gives("-7%4+9", 6);
        gives("7%-4+9", 12);
        gives("5/0+2", 2);
        gives("5%0+2", 2);
        gives("-2*3+9", 3);
        gives("3<5", 1);
        gives("5<5", 0);
        gives("5=5", 1);
        gives("5=4", 0);
        gives("5>4", 1);
        gives("5>5", 0);
        gives("2|0", 1);
        gives("0|0", 0);
        gives("0|4", 1);
        gives("2&4", 1);
        gives("2&0", 0);
        gives("0&2", 0);
        gives("1|0&0", 1);
        gives("(1|0)&0", 0);
        gives("1&0=0", 1);
        gives("1+1<1", 0);
        gives("1+1<1+2", 1);
        gives("!7", 0);
        gives("!0", 1);
        gives("!!7", 1);
        gives("!0+1", 2);
        gives("!(0+1)", 0);
        gives("-!0+9", 8);
        gives("-3", 0);
        gives("99", 99);
        gives("100", 99);
        gives("0042", 42);
        gives("4096*4096*128", 0);
        gives("4096*4096*128-1", 99);
        gives("(4096*4096*128)/-1", 0);
        gives("(4096*4096*128)%-1+5", 5);
        gives("-(4096*4096*128)", 0);
        gives("4096*4096*256+7", 7);
    }

    private static void lines() {
        String law = "z>5?9;z>2?4;1;8";
        SkinOfTeeth x = new SkinOfTeeth();
        x.person(9);
        Due.law(x, law);
        DUE.is("first line", x.takes(0, 6), 9);
        DUE.is("second line", x.takes(0, 5), 4);
        DUE.is("third line", x.takes(0, 2), 1);
        gives("0?5", 0);
        gives("0?5;0?6", 0);
        gives("-1?6", 6);
        gives("0?5;3;4?7", 3);
        gives("2;9", 2);
        gives("1?0;9", 0);
    }

    private static void names() {
        SkinOfTeeth x = new SkinOfTeeth();
        x.person(2);
        x.person(9);
        x.mend(0, 8, 2);
        x.mend(0, 0, 5);
        x.mend(1, 8, 5);
        Due.law(x, "z");
        DUE.is("z", x.takes(0, 59), 9);
        Due.law(x, "w");
        DUE.is("w", x.takes(0, 59), 22);
        Due.law(x, "t*10");
        DUE.is("t of 9", x.takes(0, 9), 10);
        DUE.is("t of 8", x.takes(0, 8), 0);
        DUE.is("t of 7", x.takes(0, 7), 70);
        Due.law(x, "c*7");
        DUE.is("c of 1", x.takes(0, 1), 7);
        DUE.is("c of 9", x.takes(0, 9), 7);
        DUE.is("c of 2", x.takes(0, 2), 0);
        DUE.is("c of another", x.takes(1, 2), 7);
        Due.law(x, "f*11");
        DUE.is("f", x.takes(0, 59), 55);
        Due.law(x, "l");
        x.say(0, 10);
        x.say(0, 10);
        DUE.is("l", x.takes(0, 59), 2);
        DUE.is("l of another", x.takes(1, 59), 0);
        x.year();
        DUE.is("l in a new year", x.takes(0, 59), 0);
    }

    /** The program against a second reading of the document, by texts that are drawn. */
    private static void drawnTexts() {
        Random random = new Random(7);
        for (int i = 0; i < 20000; i++) {
            String text = i % 2 == 0 ? LawTexts.anyText(random) : LawTexts.anyBytes(random);
            SkinOfTeeth x = new SkinOfTeeth();
            x.person(random.nextInt(10));
            x.mend(0, 8, random.nextInt(256));
            x.say(0, 10);
            int fault = ModelLaw.fault(text);
            DUE.is("law " + text, Due.law(x, text), fault < 0 ? 1 : -100 - fault);
            if (fault < 0) {
                int fz = random.nextInt(100);
                int t = fz % 10 % 8;
                int[] named = {fz % 10, 1, x.of(0, 11), t, x.of(0, 8) >> t & 1, fz / 10};
                DUE.is("takes by " + text, x.takes(0, fz), Math.max(0, Math.min(99, ModelLaw.value(text, named))));
            }
        }
    }
}
