/** Promise 7 at its edges: every byte at every kind of place, digits, what is open at once, ints that wrap, lines, the tape. */
public final class LawEdgesTest {
    private static final Due DUE = new Due("LawEdgesTest");
    private static final String LEAST = "(4096*4096*128)";
    private static final String OPENS = "(!-";

    public static void main(String[] args) {
        everyByte();
        digits();
        sixAreOpen();
        theSeventh();
        closedAgain();
        openAtOnceByLines();
        endsTooEarly();
        theWholeTape();
        linesOnAWholeTape();
        theMostSteps();
        held();
        wraps();
        division();
        comparisons();
        truths();
        binding();
        lines();
        names();
        whatAFaultLeaves();
        oneLawAfterAnother();
        DUE.end();
    }

    private static void fault(String text, int place) {
        DUE.is("7 law " + text, Due.law(new SkinOfTeeth(), text), -100 - place);
    }

    private static void well(String text) {
        DUE.is("7 law " + text, Due.law(new SkinOfTeeth(), text), 1);
    }

    private static void gives(String text, int flakes) {
        SkinOfTeeth x = new SkinOfTeeth();
        x.person(9);
        DUE.is("7 law " + text, Due.law(x, text), 1);
        DUE.is("7 takes by " + text, x.takes(0, 57), flakes);
    }

    /** Behind a beginning every byte: with some the text is well, with some it ends too early, else the byte is its fault. */
    private static void behind(String beginning, String well, String tooEarly) {
        for (char c = 0; c < 256; c++) {
            int place = tooEarly.indexOf(c) >= 0 ? beginning.length() + 1 : beginning.length();
            int due = well.indexOf(c) >= 0 ? 1 : -100 - place;
            DUE.is("7 " + beginning + " and byte " + (int) c, Due.law(new SkinOfTeeth(), beginning + c), due);
        }
    }

    private static void everyByte() {
        String operands = "0123456789zlwtcf";
        String goesOn = "|&<=>+-*/%?;";
        behind("", operands, "!-(");
        behind("1", "0123456789", goesOn);
        behind("1234", "", goesOn);
        behind("z", "", goesOn);
        behind("(1)", "", goesOn);
        behind("!1", "0123456789", goesOn);
        behind("(", "", operands + "!-(");
        behind("(z", ")", "|&<=>+-*/%");
        behind("((z)", ")", "|&<=>+-*/%");
        behind("(z<z", ")", "|&+-*/%");
        behind("!", operands, "!-(");
        behind("-", operands, "!-(");
        behind("!!!!!!", operands, "");
        behind("z<z", "", "|&+-*/%?;");
        behind("z=z", "", "|&+-*/%?;");
        behind("z>z", "", "|&+-*/%?;");
        behind("z<z&z", "", goesOn);
        behind("z<z|z", "", goesOn);
        behind("(z<z)", "", goesOn);
        behind("z?z", "", "|&<=>+-*/%;");
        behind("z;z", "", goesOn);
        behind("z?z;z", "", goesOn);
        for (char sign : "|&<=>+-*/%?;".toCharArray()) {
            behind("z" + sign, operands, "!-(");
        }
    }

    private static void digits() {
        well("0");
        well("00");
        well("000");
        well("0000");
        fault("00000", 4);
        well("9999");
        fault("99999", 4);
        fault("1+12345", 6);
        well("1+1234");
        fault("12345678", 4);
        fault("(12345)", 5);
        fault("1234z", 4);
        gives("0099", 99);
        gives("0007", 7);
        gives("9999-9989", 10);
        gives("0", 0);
    }

    private static void sixAreOpen() {
        for (int way = 0; way < 729; way++) {
            StringBuilder ahead = new StringBuilder();
            StringBuilder closes = new StringBuilder();
            for (int i = 0, w = way; i < 6; i++, w /= 3) {
                ahead.append(OPENS.charAt(w % 3));
                closes.append(w % 3 == 0 ? ")" : "");
            }
            well(ahead + "z" + closes);
            fault(ahead.toString(), 6);
            fault(ahead + OPENS.substring(way % 3, way % 3 + 1) + "z", 6);
        }
    }

    private static void theSeventh() {
        fault("(((((((z)))))))", 6);
        fault("!!!!!!!z", 6);
        fault("-------z", 6);
        fault("z+(((((((z", 8);
        fault("z-((((((-z", 8);
        fault("z--((((((z", 8);
        fault("((((((z+(z", 8);
        fault("((((((z*!z", 8);
        fault("!(!(!(!z", 6);
        fault("!!!(z+(((z", 8);
        fault("!!!!!!(z)", 6);
        fault("((((((z)+((", 10);
    }

    private static void closedAgain() {
        well("((((((z))))))");
        well("((((((z))))))+((((((z))))))");
        well("!!!!!!z+!!!!!!z");
        well("------z-------z");
        well("!!!!!!z&((((((z))))))");
        well("((((((z)+(z))))))");
        well("(((((!z+!z+-z)))))");
        well("!!!(z+((z)))");
        well("(!!!!!z+!!!!!z)");
        well("z-((((((z))))))");
        fault("z-((((((z)))))))", 15);
    }

    private static void openAtOnceByLines() {
        well("!!!!!!z?!!!!!!z;!!!!!!z?((((((z))))))");
        fault("z?(((((((z", 8);
        fault("z?!!!!!!-z", 8);
        fault("z;(((((((z", 8);
        fault("z?z;------!z", 10);
        fault("z?(z?z)", 4);
        fault("z?(z;z)", 4);
    }

    private static void endsTooEarly() {
        fault("", 0);
        for (String text : new String[] {"!", "-", "(", "z+", "z-", "z*", "z/", "z%", "z<", "z=", "z>", "z&", "z|", "z?",
            "z;", "z?z;", "z;z?", "(z", "((z)", "z+(z", "(z+", "z?(", "12+", "z<z&", "z;z;"}) {
            fault(text, text.length());
        }
    }

    /** A text of z's joined by a sign, so many bytes long. */
    private static String joined(String sign, int bytes) {
        StringBuilder text = new StringBuilder("z");
        while (text.length() < bytes) {
            text.append(text.length() % 2 == 1 ? sign : "z");
        }
        return text.toString();
    }

    private static void theWholeTape() {
        for (char sign : "|&+-*/%".toCharArray()) {
            well(joined("" + sign, 119));
            fault(joined("" + sign, 120), 120);
            fault(joined("" + sign, 119) + "z", 119);
            well("!" + joined("" + sign, 119));
            fault("!" + joined("" + sign, 118), 119);
            fault(joined("" + sign, 119) + ")", 119);
        }
        fault(joined("+", 113) + "+((((((", 120);
        SkinOfTeeth x = new SkinOfTeeth();
        x.person(9);
        DUE.is("7 what comes beyond the tape is not read", Due.law(x, "1" + joined("+", 119) + "x"), -101);
        DUE.is("7 120 bytes and one beyond", Due.law(x, "12" + "+1".repeat(59) + "x"), 1);
        DUE.is("7 twelve and fifty-nine", x.takes(0, 0), 71);
    }

    private static void linesOnAWholeTape() {
        well(joined(";", 119));
        fault(joined(";", 120), 120);
        SkinOfTeeth x = new SkinOfTeeth();
        x.person(9);
        DUE.is("7 sixty lines", Due.law(x, joined(";", 119)), 1);
        DUE.is("7 the first counts", x.takes(0, 7), 7);
        DUE.is("7 thirty lines", Due.law(x, "0?1;".repeat(29) + "0?1"), 1);
        DUE.is("7 none counts", x.takes(0, 7), 0);
        DUE.is("7 thirty lines", Due.law(x, "0?1;".repeat(29) + "1?42"), 1);
        DUE.is("7 the last counts", x.takes(0, 7), 42);
        DUE.is("7 thirty lines", Due.law(x, "0?1;".repeat(29) + "43"), 1);
        DUE.is("7 the last counts", x.takes(0, 7), 43);
    }

    private static void theMostSteps() {
        SkinOfTeeth x = new SkinOfTeeth();
        x.person(9);
        DUE.is("7 120 bytes, each of them a step", Due.law(x, "-1" + "+1".repeat(59)), 1);
        DUE.is("7 all of them count", x.takes(0, 0), 58);
        DUE.is("7 the same once more", Due.law(x, "-1" + "+2".repeat(59)), 1);
        DUE.is("7 held", x.takes(0, 0), 99);
        DUE.is("7 prefixes alone", Due.law(x, "!!!!!!z" + "+!!!!!!z".repeat(14)), 1);
        DUE.is("7 all of them count", x.takes(0, 5), 15);
        DUE.is("7 lines with steps of their own", Due.law(x, "-0?-1;".repeat(19) + "-0?-1"), 1);
        DUE.is("7 none counts", x.takes(0, 0), 0);
    }

    private static void held() {
        gives("-1", 0);
        gives("0", 0);
        gives("1", 1);
        gives("98", 98);
        gives("99", 99);
        gives("100", 99);
        gives("9999", 99);
        gives("-9999", 0);
        gives(LEAST, 0);
        gives(LEAST + "-1", 99);
    }

    private static void wraps() {
        gives(LEAST + "-1>0", 1);
        gives(LEAST + "<0", 1);
        gives(LEAST + "-1+1<0", 1);
        gives("4096*4096*256", 0);
        gives("4096*4096*256+7", 7);
        gives("-" + LEAST + "<0", 1);
        gives("-" + LEAST + "=" + LEAST, 1);
        gives(LEAST + "*-1=" + LEAST, 1);
        gives(LEAST + "*2+5", 5);
        gives("(" + LEAST + "-1)*2+5", 3);
        gives(LEAST + "-" + LEAST + "+4", 4);
        gives(LEAST + "+" + LEAST + "+4", 4);
        gives(LEAST + "-1-(0-1)<0", 1);
    }

    private static void division() {
        gives("7/2", 3);
        gives("10+-7/2", 7);
        gives("10+7/-2", 7);
        gives("-7/-2", 3);
        gives("0/5", 0);
        gives("7%2", 1);
        gives("10+-7%2", 9);
        gives("10+7%-2", 11);
        gives("10+-7%-2", 9);
        gives("6%3+8", 8);
        gives("7/0", 0);
        gives("7/0+8", 8);
        gives("-7/0+8", 8);
        gives("0/0+8", 8);
        gives("7%0", 0);
        gives("7%0+8", 8);
        gives("-7%0+8", 8);
        gives("0%0+8", 8);
        gives("7/(3-3)+8", 8);
        gives("7%(3-3)+8", 8);
        gives(LEAST + "/-1=" + LEAST, 1);
        gives(LEAST + "%-1+8", 8);
        gives(LEAST + "/0+8", 8);
        gives(LEAST + "/1<0", 1);
    }

    private static void comparisons() {
        gives("4<5", 1);
        gives("5<5", 0);
        gives("6<5", 0);
        gives("4=5", 0);
        gives("5=5", 1);
        gives("6=5", 0);
        gives("4>5", 0);
        gives("5>5", 0);
        gives("6>5", 1);
        gives("-1<0", 1);
        gives("-1>0", 0);
        gives("0>-1", 1);
        gives("-5=-5", 1);
        gives(LEAST + "<" + LEAST + "-1", 1);
        gives("7+(4<5)", 8);
        gives("7+(5<4)", 7);
        gives("7+(5=5)", 8);
        gives("7+(5=4)", 7);
        gives("7+(5>4)", 8);
        gives("7+(4>5)", 7);
        gives("(1<2)<2", 1);
        gives("(3>2)=1", 1);
    }

    private static void truths() {
        int[][] pairs = {{0, 0}, {0, 1}, {1, 0}, {1, 1}, {0, 4}, {4, 0}, {2, 4}, {5, 5}};
        for (int[] p : pairs) {
            boolean a = p[0] != 0;
            boolean b = p[1] != 0;
            gives("7+(" + p[0] + "|" + p[1] + ")", a || b ? 8 : 7);
            gives("7+(" + p[0] + "&" + p[1] + ")", a && b ? 8 : 7);
            gives("7+(-" + p[0] + "|-" + p[1] + ")", a || b ? 8 : 7);
            gives("7+(-" + p[0] + "&-" + p[1] + ")", a && b ? 8 : 7);
        }
        gives("7+!0", 8);
        gives("7+!1", 7);
        gives("7+!5", 7);
        gives("7+!-5", 7);
        gives("7+!!5", 8);
        gives("7+!!0", 7);
        gives("7+!" + LEAST, 7);
        gives("7+!(" + LEAST + "-" + LEAST + ")", 8);
        gives("7+(1|1/0)", 8);
        gives("7+(0&1/0)", 7);
        gives("0|0|3", 1);
        gives("1&1&0", 0);
    }

    private static void binding() {
        gives("1|1&0", 1);
        gives("0&1|1", 1);
        gives("0&(1|1)", 0);
        gives("2&3=3", 1);
        gives("(2&3)=3", 0);
        gives("0=0&0", 0);
        gives("9=5+4", 1);
        gives("5+(4=9)", 5);
        gives("2+3*4", 14);
        gives("2*3+4", 10);
        gives("20-3-4", 13);
        gives("20-(3-4)", 21);
        gives("80/4/2", 10);
        gives("80/(4/2)", 40);
        gives("17%10*3", 21);
        gives("17%(10*3)", 17);
        gives("3*17%10", 1);
        gives("-3+9", 6);
        gives("-(3-9)", 6);
        gives("!0*7", 7);
        gives("!(0*7)", 1);
        gives("9--3", 12);
        gives("9-!3", 9);
        gives("2*-3+9", 3);
    }

    private static void lines() {
        gives("1?5", 5);
        gives("-1?5", 5);
        gives("0?5", 0);
        gives("0?5;6", 6);
        gives("0?5;0?6", 0);
        gives("0?5;0?6;7", 7);
        gives("1?0;6", 0);
        gives("1?-6;6", 0);
        gives("5;6", 5);
        gives("0;6", 0);
        gives("5;1?6", 5);
        gives("0?5;2?6;7", 6);
        gives(LEAST + "?5;6", 5);
        gives("1/0?5;6", 6);
        gives("z=7?5;z=6?4;3", 5);
        gives("z=6?5;z=7?4;3", 4);
        gives("z=6?5;z=5?4;3", 3);
        gives("0?z;0?l;0?w;0?t;0?c;f", 5);
    }

    private static void names() {
        SkinOfTeeth x = new SkinOfTeeth();
        x.person(0);
        x.person(9);
        x.mend(1, 8, 129);
        for (int size = 0; size <= 9; size++) {
            Due.law(x, "z");
            DUE.is("7 z", x.takes(1, size), size);
            Due.law(x, "t");
            DUE.is("7 t", x.takes(1, size), size % 8);
            Due.law(x, "c+7");
            DUE.is("7 c", x.takes(1, size), size % 8 == 0 || size % 8 == 7 ? 8 : 7);
            Due.law(x, "f");
            DUE.is("7 f", x.takes(1, 10 * size), size);
            Due.law(x, "w");
            DUE.is("7 w", x.takes(1, size), 78);
            DUE.is("7 w of nothing", x.takes(0, size), 0);
        }
        Due.law(x, "l");
        DUE.is("7 l of none", x.takes(1, 0), 0);
        for (int i = 0; i < 100; i++) {
            x.say(0, 10);
        }
        DUE.is("7 l held", x.takes(0, 0), 99);
        Due.law(x, "l-90");
        DUE.is("7 l of a hundred", x.takes(0, 0), 10);
        DUE.is("7 l of another", x.takes(1, 0), 0);
    }

    private static void whatAFaultLeaves() {
        SkinOfTeeth x = new SkinOfTeeth();
        x.person(9);
        DUE.is("7 a fault", Due.law(x, "7+"), -102);
        DUE.is("7 no text as yet", x.takes(0, 9), 5);
        DUE.is("7 the tape is empty", x.count(2), 0);
        DUE.is("7 a law", Due.law(x, "7"), 1);
        DUE.is("7 the tape is empty", x.count(2), 0);
        DUE.is("7 a fault in a later line", Due.law(x, "8;9;*"), -104);
        DUE.is("7 the law of before", x.takes(0, 9), 7);
        DUE.is("7 a fault behind a first E", Due.law(x, "1?8;1?"), -106);
        DUE.is("7 the law of before", x.takes(0, 9), 7);
        DUE.is("7 an empty tape", x.law(), -100);
        DUE.is("7 the law of before", x.takes(0, 9), 7);
        DUE.is("7 another law", Due.law(x, "z?6;4"), 1);
        DUE.is("7 by its first line", x.takes(0, 9), 6);
        DUE.is("7 by its second line", x.takes(0, 0), 4);
        DUE.is("7 a fault", Due.law(x, "zz"), -101);
        DUE.is("7 by its second line", x.takes(0, 0), 4);
        DUE.is("7 laws are no changes", x.count(3), 0);
    }

    /** Nothing of a law, nor of a text with a fault, is left in those that come after it, short or long. */
    private static void oneLawAfterAnother() {
        String[] texts = {"5", "z", "6", "z<5?1;f", "7", "(((8)))", "0?1;0?2", "!0*9", "1+1+1+1", "3", "0;5", "z?2;4"};
        int[] due = {5, 9, 6, 2, 7, 8, 0, 9, 4, 3, 0, 2};
        String[] faults = {"", "1;", "1?", "9)", "z+z+z+z+z+z+(", "1?2;3?4;5?6?"};
        for (int step = 1; step < texts.length; step++) {
            for (int faulty = 0; faulty <= faults.length; faulty++) {
                SkinOfTeeth x = new SkinOfTeeth();
                x.person(9);
                for (int i = 0, n = 0; i < texts.length; i++, n = (n + step) % texts.length) {
                    DUE.is("7 the law " + texts[n], Due.law(x, texts[n]), 1);
                    if (faulty < faults.length) {
                        DUE.is("7 a fault " + faults[faulty], Due.law(x, faults[faulty]) < -99 ? 1 : 0, 1);
                    }
                    DUE.is("7 by the law " + texts[n], x.takes(0, 29), due[n]);
                }
            }
        }
    }
}
