import java.util.Random;

/** Drawn texts of laws: well ones, and ones with a byte changed, put in or left out. */
final class LawTexts {
    private static final String BYTES = "0123456789zlwtcf()!-+*/%<=>&|?;x ";

    private LawTexts() { }

    static String anyText(Random random) {
        StringBuilder s = new StringBuilder(line(random));
        int lines = random.nextInt(3);
        for (int i = 0; i < lines; i++) {
            s.append(';').append(line(random));
        }
        return s.length() > 120 ? "z+l" : s.toString();
    }

    static String anyBytes(Random random) {
        StringBuilder s = new StringBuilder(anyText(random));
        int changes = 1 + random.nextInt(3);
        for (int i = 0; i < changes; i++) {
            int at = random.nextInt(s.length() + 1);
            char c = random.nextInt(30) == 0 ? (char) random.nextInt(256) : BYTES.charAt(random.nextInt(BYTES.length()));
            int what = random.nextInt(3);
            if (what == 0 || at == s.length()) {
                s.insert(at, c);
            } else if (what == 1) {
                s.setCharAt(at, c);
            } else {
                s.setLength(at);
            }
        }
        if (s.length() > 120) {
            s.setLength(120);
        }
        return s.toString();
    }

    private static String line(Random random) {
        return random.nextInt(3) == 0 ? any(random, 2) + "?" + any(random, 2) : any(random, 3);
    }

    private static String any(Random random, int depth) {
        return joined(random, depth, 0);
    }

    /** Levels of the grammar from E (0) to P (4). */
    private static String joined(Random random, int depth, int level) {
        if (level == 5) {
            return operand(random, depth);
        }
        String signs = new String[] {"|", "&", "<=>", "+-", "*/%"}[level];
        StringBuilder s = new StringBuilder(joined(random, depth, level + 1));
        int more = random.nextInt(level < 3 ? 5 : 3) == 0 ? 1 : 0;
        for (int i = 0; i < more; i++) {
            s.append(signs.charAt(random.nextInt(signs.length()))).append(joined(random, depth, level + 1));
        }
        return s.toString();
    }

    private static String operand(Random random, int depth) {
        int kind = random.nextInt(8);
        if (kind == 0 && depth > 0) {
            return "(" + any(random, depth - 1) + ")";
        }
        if (kind == 1) {
            return (random.nextBoolean() ? "!" : "-") + operand(random, depth);
        }
        if (kind < 5) {
            return "" + "zlwtcf".charAt(random.nextInt(6));
        }
        return "" + random.nextInt(kind == 5 ? 10000 : 10);
    }
}
