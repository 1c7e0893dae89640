/** Promises 24 to 32: deeds, the image, changes undone and done again. */
public final class DeedTest {
    private static final Due DUE = new Due("DeedTest");

    public static void main(String[] args) {
        say();
        lend();
        cap();
        year();
        led();
        image();
        imageAndNewcomers();
        undo();
        redo();
        fortyChanges();
        fortyUnlikeChanges();
        undoBehindDeeds();
        DUE.end();
    }

    private static void say() {
        SkinOfTeeth x = new SkinOfTeeth();
        x.person(2);
        x.mend(7, 9, 1);
        DUE.is("the truth", x.say(0, 719), 0);
        DUE.is("a lie of 9", x.say(0, 709), 5);
        DUE.is("tooth 1", x.of(0, 1), 0);
        DUE.is("tooth 2", x.of(0, 2), 0);
        DUE.is("tooth 3", x.of(0, 3), 1);
        DUE.is("tooth 0", x.of(0, 0), 2);
        DUE.is("a lie of 7, round the end", x.say(0, 17), 4);
        DUE.is("tooth 7", x.of(0, 7), 0);
        DUE.is("tooth 0", x.of(0, 0), 0);
        DUE.is("what is left is let be", x.say(0, 719 - 10) + x.say(0, 709), 7);
        DUE.is("gone", x.count(1), 1);
        DUE.is("one who is gone", x.say(0, 709), 0);
        DUE.is("lies", x.of(0, 12), 5);
        DUE.all("say wrong", -1, () -> x.say(1, 0), () -> x.say(-1, 0), () -> x.say(0, 20), () -> x.say(0, 1000),
            () -> x.say(0, -1), () -> x.say(0, 990), () -> x.say(0, Integer.MAX_VALUE),
            () -> x.say(0, Integer.MIN_VALUE));
        DUE.is("sayings", x.led(0), 6);
        DUE.is("lies", x.led(1), 5);
        DUE.is("flakes", x.led(2), 16);
        DUE.is("deeds are no changes", x.count(3), 1);
    }

    private static void lend() {
        SkinOfTeeth x = new SkinOfTeeth();
        x.person(2);
        x.person(7);
        x.mend(0, 8, 12);
        x.mend(1, 8, 8);
        DUE.is("lend, capped against uncapped", x.lend(1, 2), 7);
        DUE.is("caps of 0", x.of(0, 8), 8);
        DUE.is("caps of 1", x.of(1, 8), 12);
        DUE.is("flakes of 1", x.of(1, 2), 2);
        DUE.is("lend, both capped", x.lend(10, 3), 2);
        DUE.is("caps of 0", x.of(0, 8), 8);
        DUE.is("flakes of 0", x.of(0, 3), 7);
        DUE.is("lend, none capped", x.lend(1, 7), 7);
        DUE.is("caps of 1", x.of(1, 8), 12);
        DUE.all("lend wrong", -1, () -> x.lend(0, 0), () -> x.lend(11, 0), () -> x.lend(2, 0), () -> x.lend(20, 0),
            () -> x.lend(-1, 0), () -> x.lend(-10, 0), () -> x.lend(1, 8), () -> x.lend(1, -1), () -> x.lend(101, 0));
        DUE.is("lendings", x.led(3), 3);
        DUE.is("deeds are no changes", x.count(3), 2);
    }

    private static void cap() {
        SkinOfTeeth x = new SkinOfTeeth();
        x.person(2);
        DUE.is("cap", x.cap(0, 7), 1);
        DUE.is("cap", x.cap(0, 0), 2);
        DUE.is("caps", x.of(0, 8), 129);
        DUE.is("capped", x.cap(0, 7), -5);
        DUE.all("cap wrong", -1, () -> x.cap(1, 0), () -> x.cap(-1, 0), () -> x.cap(0, 8), () -> x.cap(0, -1));
        DUE.is("caps set", x.led(4), 2);
        DUE.is("worth", x.of(0, 11), 22);
        DUE.is("deeds are no changes", x.count(3), 0);
    }

    private static void year() {
        SkinOfTeeth x = new SkinOfTeeth();
        DUE.is("no people", x.year(), 0);
        x.person(2);
        x.person(2);
        x.say(0, 10);
        x.say(1, 110);
        x.say(1, 210);
        x.say(1, 200);
        DUE.is("three lies", x.year(), 3);
        DUE.is("nobody has told one", x.of(0, 12) + x.of(1, 12), 0);
        DUE.is("led lies stay", x.led(1), 3);
        x.say(0, 10);
        DUE.is("since the latest", x.year(), 1);
        DUE.is("none", x.year(), 0);
        DUE.is("years", x.led(5), 4);
    }

    private static void led() {
        SkinOfTeeth x = new SkinOfTeeth();
        DUE.all("led wrong", -1, () -> x.led(-1), () -> x.led(6), () -> x.led(Integer.MAX_VALUE));
        x.person(1);
        x.person(1);
        x.say(0, 10);
        x.say(0, 19);
        x.say(0, 0);
        x.lend(1, 0);
        x.cap(0, 1);
        x.cap(0, 2);
        x.cap(0, 3);
        x.year();
        int[] due = {3, 2, 6, 1, 3, 1};
        for (int i = 0; i < due.length; i++) {
            DUE.is("led " + i, x.led(i), due[i]);
        }
    }

    private static void image() {
        SkinOfTeeth x = new SkinOfTeeth();
        x.person(3);
        x.person(3);
        x.say(0, 10);
        x.cap(0, 4);
        DUE.is("image", x.image(), 1);
        x.say(0, 15);
        x.say(1, 15);
        x.lend(1, 4);
        x.mend(0, 10, 7);
        x.mend(5, 9, 1);
        x.year();
        DUE.is("back", x.back(), 1);
        DUE.is("worth of 0, by gold 7", x.of(0, 11), 23 + 7);
        DUE.is("worth of 1", x.of(1, 11), 24);
        DUE.is("caps", x.of(0, 8), 16);
        DUE.is("lies", x.of(0, 12), 1);
        DUE.is("lies", x.of(1, 12), 0);
        DUE.is("gold is not laid back", x.of(0, 10), 7);
        DUE.is("so is not laid back", x.of(5, 9), 1);
        int[] due = {1, 1, 1, 0, 1, 0};
        for (int i = 0; i < due.length; i++) {
            DUE.is("led " + i, x.led(i), due[i]);
        }
        DUE.is("changes may be undone all the same", x.count(3), 2);
        x.say(0, 0);
        x.say(0, 17);
        DUE.is("back once more", x.back(), 1);
        DUE.is("tooth 7", x.of(0, 7), 3);
        x.say(0, 17);
        DUE.is("a new image", x.image(), 2);
        x.mend(0, 7, 9);
        DUE.is("back", x.back(), 2);
        DUE.is("mended teeth are laid back, too", x.of(0, 7), 0);
        DUE.is("the lie", x.of(0, 0), 1);
    }

    private static void imageAndNewcomers() {
        SkinOfTeeth x = new SkinOfTeeth();
        DUE.is("back to none", x.back(), -5);
        DUE.is("image of none", x.image(), 0);
        x.person(3);
        x.say(0, 15);
        x.cap(0, 0);
        DUE.is("back", x.back(), 0);
        DUE.is("people stay", x.count(0), 1);
        DUE.is("flakes as they are", x.of(0, 5), 0);
        DUE.is("caps as they are", x.of(0, 8), 1);
        DUE.is("no lies", x.of(0, 12), 0);
        DUE.is("led", x.led(4), 0);
    }

    private static void undo() {
        SkinOfTeeth x = new SkinOfTeeth();
        DUE.is("none", x.undo(), -5);
        x.person(3);
        x.mend(0, 0, 3);
        DUE.is("the same number is no change", x.undo(), -5);
        x.mend(0, 3, 8);
        x.mend(0, 8, 5);
        x.mend(2, 9, 1);
        x.mend(0, 10, 0);
        DUE.is("four", x.count(3), 4);
        DUE.is("undo gold", x.undo(), 3);
        DUE.is("gold", x.of(0, 10), 3);
        DUE.is("undo so", x.undo(), 2);
        DUE.is("so", x.of(2, 9), 0);
        DUE.is("undo caps", x.undo(), 1);
        DUE.is("caps", x.of(0, 8), 0);
        DUE.is("undo flakes", x.undo(), 0);
        DUE.is("flakes", x.of(0, 3), 3);
        DUE.is("none", x.undo(), -5);
    }

    private static void redo() {
        SkinOfTeeth x = new SkinOfTeeth();
        x.person(3);
        DUE.is("none", x.redo(), -5);
        x.mend(0, 0, 4);
        x.mend(0, 0, 5);
        x.mend(0, 0, 6);
        DUE.is("none", x.redo(), -5);
        x.undo();
        x.undo();
        DUE.is("it is", x.of(0, 0), 4);
        DUE.is("done again", x.redo(), 1);
        DUE.is("it is", x.of(0, 0), 5);
        DUE.is("may be undone", x.count(3), 2);
        x.mend(0, 0, 5);
        DUE.is("the same number came behind: none", x.redo(), 0);
        DUE.is("it is", x.of(0, 0), 6);
        x.undo();
        x.mend(0, 1, 0);
        DUE.is("another came behind", x.redo(), -5);
        DUE.is("undo it", x.undo(), 2);
        DUE.is("undo", x.undo(), 1);
        DUE.is("it is", x.of(0, 0), 4);
        x.mend(0, 0, 11);
        x.say(0, 10);
        DUE.is("what is BAD changes nothing, nor deeds", x.redo(), 1);
        DUE.is("it is", x.of(0, 0), 5);
    }

    private static void fortyChanges() {
        SkinOfTeeth x = new SkinOfTeeth();
        x.person(0);
        for (int i = 0; i < 45; i++) {
            x.mend(0, 8, i + 1);
            DUE.is("kept", x.count(3), Math.min(40, i + 1));
        }
        for (int i = 39; i >= 0; i--) {
            DUE.is("undo", x.undo(), i);
            DUE.is("caps", x.of(0, 8), i + 5);
        }
        DUE.is("no more", x.undo(), -5);
        DUE.is("caps", x.of(0, 8), 5);
        for (int i = 39; i >= 0; i--) {
            DUE.is("redo", x.redo(), i);
            DUE.is("caps", x.of(0, 8), 45 - i);
        }
        DUE.is("no more", x.redo(), -5);
        x.undo();
        x.mend(0, 0, 9);
        DUE.is("forty", x.count(3), 40);
        x.mend(0, 1, 9);
        DUE.is("forty", x.count(3), 40);
        x.undo();
        DUE.is("undo", x.undo(), 38);
        DUE.is("flakes", x.of(0, 11), 3 * Integer.bitCount(44));
    }

    private static void fortyUnlikeChanges() {
        SkinOfTeeth x = new SkinOfTeeth();
        x.person(0);
        x.person(0);
        for (int i = 0; i < 16; i++) {
            x.mend(i / 8, i % 8, 1);
        }
        for (int fact = 0; fact < 10; fact++) {
            x.mend(fact, 9, 1);
        }
        x.mend(0, 10, 0);
        x.mend(1, 8, 3);
        for (int i = 15; i >= 0; i--) {
            x.mend(i / 8, i % 8, 2);
        }
        DUE.is("forty of forty-four", x.count(3), 40);
        for (int i = 0; i < 16; i++) {
            x.undo();
            DUE.is("flakes", x.of(i / 8, i % 8), 1);
        }
        x.undo();
        DUE.is("caps", x.of(1, 8), 0);
        DUE.is("gold as yet", x.of(0, 10), 0);
        x.undo();
        DUE.is("gold", x.of(0, 10), 3);
        for (int fact = 9; fact >= 0; fact--) {
            DUE.is("so as yet", x.of(fact, 9), 1);
            x.undo();
            DUE.is("so", x.of(fact, 9), 0);
        }
        for (int i = 15; i >= 4; i--) {
            DUE.is("undo", x.undo(), i - 4);
            DUE.is("flakes", x.of(i / 8, i % 8), 0);
        }
        DUE.is("no more", x.undo(), -5);
        DUE.is("the four oldest stay", x.of(0, 11), 4);
    }

    private static void undoBehindDeeds() {
        SkinOfTeeth x = new SkinOfTeeth();
        x.person(3);
        x.mend(0, 0, 9);
        x.say(0, 10);
        DUE.is("a lie off the mended tooth", x.of(0, 0), 8);
        DUE.is("undo", x.undo(), 0);
        DUE.is("what it was ahead of the change", x.of(0, 0), 3);
        DUE.is("redo", x.redo(), 0);
        DUE.is("what it was told", x.of(0, 0), 9);
        DUE.is("the lie stays told", x.of(0, 12), 1);
    }
}
