/** Promises 1 to 6 and 8: people, facts, the tape, what a lie takes. */
public final class PeopleTest {
    private static final Due DUE = new Due("PeopleTest");

    public static void main(String[] args) {
        aNewObject();
        person();
        people();
        peopleThatEnd();
        mend();
        of();
        feed();
        takes();
        DUE.end();
    }

    private static void aNewObject() {
        SkinOfTeeth x = new SkinOfTeeth();
        for (int i = 0; i < 6; i++) {
            int n = i;
            DUE.all("new: count, led, shelf " + i, 0, () -> x.count(n), () -> x.led(n));
            DUE.is("new: element", x.element(i, 0), Long.MIN_VALUE);
            DUE.is("new: taken", x.taken(i, 0), -11);
        }
        for (int fact = 0; fact < 10; fact++) {
            DUE.is("new: so", x.of(fact, 9), 0);
        }
        DUE.is("new: gold", x.of(0, 10), 3);
        DUE.all("new: nothing to go back to", -5, () -> x.back(), () -> x.undo(), () -> x.redo());
        DUE.is("new: trace", x.trace(0), -1);
    }

    private static void person() {
        SkinOfTeeth x = new SkinOfTeeth();
        DUE.all("person wrong", -1, () -> x.person(-1), () -> x.person(10),
            () -> x.person(Integer.MAX_VALUE), () -> x.person(Integer.MIN_VALUE));
        DUE.is("person(0)", x.person(0), 0);
        for (int i = 1; i < 7; i++) {
            DUE.is("person", x.person(9), i);
        }
        DUE.is("person, full", x.person(5), -3);
        DUE.is("person, wrong and full", x.person(10), -1);
        DUE.is("count", x.count(0), 7);
        for (int t = 0; t < 8; t++) {
            DUE.is("flakes", x.of(0, t), 0);
            DUE.is("flakes", x.of(6, t), 9);
        }
        DUE.is("caps", x.of(6, 8), 0);
        DUE.is("lies", x.of(6, 12), 0);
    }

    private static void people() {
        SkinOfTeeth x = new SkinOfTeeth();
        Due.bytes(x, 5, 7, -128, 1, 2, 3, 4, 5, 6, 7, 8, 3, 9, 9, 9, 9, 9, 9, 9, 9, 0);
        DUE.all("people wrong", -1, () -> x.people(-1, 0, 1), () -> x.people(6, 0, 1), () -> x.people(5, 0, 0),
            () -> x.people(5, 0, 8), () -> x.people(5, 0, -1));
        DUE.all("none came", 0, () -> x.people(0, 0, 1), () -> x.people(5, -1, 1),
            () -> x.people(5, Integer.MIN_VALUE, 7), () -> x.people(5, Integer.MAX_VALUE, 7),
            () -> x.people(5, 12, 1), () -> x.people(5, 60, 1));
        DUE.is("count", x.count(0), 0);
        DUE.is("people from 1", x.people(5, 1, 2), 2);
        DUE.is("caps as bits", x.of(0, 8), 128);
        for (int t = 0; t < 8; t++) {
            DUE.is("flakes of 0", x.of(0, t), t + 1);
            DUE.is("flakes of 1", x.of(1, t), 9);
        }
        DUE.is("caps", x.of(1, 8), 3);
        DUE.is("people from 11 (the last nine, 0 at its end)", x.people(5, 11, 7), 1);
        DUE.is("caps", x.of(2, 8), 9);
        DUE.is("flakes", x.of(2, 7), 0);
        x.say(0, 10);
        DUE.is("an old one's lies", x.of(0, 12), 1);
        DUE.is("people are no changes", x.count(3), 0);
        x.row(4, 2, 20);
        DUE.is("ints", x.people(4, 0, 1), -12);
        DUE.is("ints below 0", x.people(4, -1, 1), -12);
        x.body(0);
        x.keep(4, 0);
        DUE.is("a body", x.people(4, 0, 1), -12);
        DUE.is("wrong n, a body", x.people(4, 0, 8), -1);
        x.row(4, 4, 20);
        DUE.is("booleans", x.people(4, 0, 1), -12);
        x.keep(4, -1);
        DUE.is("missing", x.people(4, 0, 1), 0);
        DUE.is("count", x.count(0), 3);
    }

    private static void peopleThatEnd() {
        SkinOfTeeth x = new SkinOfTeeth();
        Due.bytes(x, 0, 1, 1, 1, 1, 1, 1, 1, 1, 1, 2, 2, 2, 2, 2, 2, 2, 2, 10, 3, 3, 3, 3, 3, 3, 3, 3, 3);
        DUE.is("ends at one not as it may be", x.people(0, 0, 3), 1);
        x.put(0, 17, -1);
        DUE.is("ends at one below 0", x.people(0, 0, 3), 1);
        DUE.is("behind it", x.people(0, 18, 1), 1);
        DUE.is("it came", x.of(2, 0), 3);
        x.put(0, 17, 2);
        DUE.is("fewer wanted", x.people(0, 0, 1), 1);
        DUE.is("within a nine", x.people(0, 10, 3), 1);
        DUE.is("till full", x.people(0, 0, 7), 2);
        DUE.is("full", x.people(0, 0, 7), 0);
        DUE.is("all seven", x.count(0), 7);
        DUE.is("the last", x.of(6, 7), 2);
    }

    private static void mend() {
        SkinOfTeeth x = new SkinOfTeeth();
        x.person(4);
        DUE.is("mend a tooth", x.mend(0, 7, 9), 4);
        DUE.is("mend it back", x.mend(0, 7, 0), 9);
        DUE.is("it is", x.of(0, 7), 0);
        DUE.is("the one beside it", x.of(0, 6), 4);
        DUE.is("mend caps", x.mend(0, 8, 255), 0);
        DUE.is("mend caps", x.mend(0, 8, 0), 255);
        DUE.is("mend a fact", x.mend(9, 9, 1), 0);
        DUE.is("the fact", x.of(9, 9), 1);
        DUE.is("the fact beside it", x.of(8, 9), 0);
        DUE.is("mend a fact", x.mend(9, 9, 0), 1);
        DUE.is("mend gold", x.mend(0, 10, 9), 3);
        DUE.is("mend gold", x.mend(0, 10, 0), 9);
        DUE.all("mend wrong", -1, () -> x.mend(0, 0, 10), () -> x.mend(0, 0, -1), () -> x.mend(1, 0, 1),
            () -> x.mend(-1, 0, 1), () -> x.mend(0, 8, 256), () -> x.mend(0, 8, -1), () -> x.mend(1, 8, 1),
            () -> x.mend(10, 9, 1), () -> x.mend(-1, 9, 1), () -> x.mend(0, 9, 2), () -> x.mend(0, 9, -1),
            () -> x.mend(1, 10, 1), () -> x.mend(0, 10, 10), () -> x.mend(0, 10, -1), () -> x.mend(0, 11, 1),
            () -> x.mend(0, 12, 1), () -> x.mend(0, -1, 1), () -> x.mend(0, Integer.MAX_VALUE, 1));
        DUE.is("eight changes", x.count(3), 8);
    }

    private static void of() {
        SkinOfTeeth x = new SkinOfTeeth();
        x.person(4);
        x.person(2);
        DUE.is("worth", x.of(0, 11), 32);
        x.mend(0, 8, 7);
        DUE.is("worth with three caps", x.of(0, 11), 41);
        x.mend(0, 10, 8);
        DUE.is("worth with gold 8", x.of(0, 11), 56);
        x.say(1, 10);
        x.say(1, 0);
        x.say(1, 10);
        DUE.is("lies", x.of(1, 12), 2);
        DUE.is("worth", x.of(1, 11), 14);
        DUE.all("of wrong", -1, () -> x.of(2, 0), () -> x.of(-1, 0), () -> x.of(2, 8), () -> x.of(10, 9),
            () -> x.of(-1, 9), () -> x.of(1, 10), () -> x.of(2, 11), () -> x.of(2, 12), () -> x.of(0, 13),
            () -> x.of(0, -1));
    }

    private static void feed() {
        SkinOfTeeth x = new SkinOfTeeth();
        DUE.all("feed wrong", -1, () -> x.feed(-1), () -> x.feed(256), () -> x.feed(Integer.MIN_VALUE));
        for (int i = 1; i <= 120; i++) {
            DUE.is("feed", x.feed(i % 2 * 255), i);
        }
        DUE.is("feed, full", x.feed(48), -3);
        DUE.is("feed, wrong and full", x.feed(256), -1);
        DUE.is("bytes", x.count(2), 120);
        DUE.is("a fault at once", x.law(), -100);
        DUE.is("empty", x.count(2), 0);
        DUE.is("feed", x.feed(48), 1);
    }

    private static void takes() {
        SkinOfTeeth x = new SkinOfTeeth();
        x.person(1);
        for (int size = 0; size < 10; size++) {
            DUE.is("takes without a text", x.takes(0, size), 1 + size / 2);
        }
        Due.law(x, "f*10+z");
        DUE.is("takes", x.takes(0, 37), 37);
        DUE.is("takes", x.takes(0, 99), 99);
        Due.law(x, "l*50+1");
        DUE.is("takes no lie ahead", x.takes(0, 0), 1);
        x.say(0, 10);
        DUE.is("takes one lie ahead", x.takes(0, 0), 51);
        DUE.is("it only tells", x.of(0, 11), 7);
        DUE.all("takes wrong", -1, () -> x.takes(1, 0), () -> x.takes(-1, 0), () -> x.takes(0, -1),
            () -> x.takes(0, 100));
    }
}
