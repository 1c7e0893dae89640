import java.util.function.LongSupplier;

/** Holds answers against those that are due, and ends a test. */
final class Due {
    private final String test;
    private int checks;
    private int wrong;

    Due(String test) {
        this.test = test;
    }

    void is(String call, long got, long want) {
        checks++;
        if (got != want) {
            wrong++;
            System.out.println(test + ": " + call + " answered " + got + ", due is " + want);
        }
    }

    /** Every one of the calls has the same answer. */
    void all(String calls, long want, LongSupplier... answers) {
        for (int i = 0; i < answers.length; i++) {
            is(calls + " #" + i, answers[i].getAsLong(), want);
        }
    }

    void end() {
        System.out.println(test + ": " + checks + " answers, " + wrong + " not as due");
        if (wrong != 0) {
            System.exit(1);
        }
    }

    /** A shelf comes to hold a row of bytes with these elements. */
    static void bytes(SkinOfTeeth x, int shelf, int... elements) {
        x.row(shelf, 0, elements.length);
        for (int i = 0; i < elements.length; i++) {
            if (elements[i] != 0) {
                x.put(shelf, i, elements[i]);
            }
        }
    }

    static int law(SkinOfTeeth x, String text) {
        for (int i = 0; i < text.length(); i++) {
            x.feed(text.charAt(i));
        }
        return x.law();
    }
}
