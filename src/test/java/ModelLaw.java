import java.util.ArrayDeque;
import java.util.Deque;

/** A law's text otherwise than the program does it: faults by a walk over the bytes, values by splitting texts. */
final class ModelLaw {
    private ModelLaw() { }

    /** What was open ahead of a bracket: prefixes, and whether its comparison was used up. */
    private record Open(int prefixes, boolean compared) { }

    static int fault(String s) {
        Deque<Open> brackets = new ArrayDeque<>();
        int prefixes = 0;
        boolean wantsOperand = true;
        boolean compared = false;
        boolean asked = false;
        int digits = 0;
        for (int i = 0; i < s.length(); i++) {
            char c = s.charAt(i);
            boolean digit = c >= '0' && c <= '9';
            if (wantsOperand) {
                int open = prefixes + brackets.size();
                for (Open o : brackets) {
                    open += o.prefixes;
                }
                if (digit || "zlwtcf".indexOf(c) >= 0) {
                    wantsOperand = false;
                    prefixes = 0;
                    digits = digit ? 1 : 4;
                } else if ((c == '!' || c == '-') && open < 6) {
                    prefixes++;
                } else if (c == '(' && open < 6) {
                    brackets.push(new Open(prefixes, compared));
                    prefixes = 0;
                    compared = false;
                } else {
                    return i;
                }
            } else if (digit && digits < 4) {
                digits++;
            } else if ("+-*/%".indexOf(c) >= 0) {
                wantsOperand = true;
            } else if ("<=>".indexOf(c) >= 0 && !compared) {
                compared = true;
                wantsOperand = true;
            } else if (c == '&' || c == '|') {
                compared = false;
                wantsOperand = true;
            } else if (c == ')' && !brackets.isEmpty()) {
                compared = brackets.pop().compared;
                digits = 4;
            } else if (c == ';' && brackets.isEmpty() || c == '?' && brackets.isEmpty() && !asked) {
                asked = c == '?';
                compared = false;
                wantsOperand = true;
            } else {
                return i;
            }
        }
        return wantsOperand || !brackets.isEmpty() ? s.length() : -1;
    }

    static int value(String text, int[] names) {
        for (String line : text.split(";")) {
            String[] parts = line.split("\\?");
            if (parts.length == 1) {
                return of(line, names);
            }
            if (of(parts[0], names) != 0) {
                return of(parts[1], names);
            }
        }
        return 0;
    }

    private static int of(String s, int[] names) {
        for (String signs : new String[] {"|", "&", "<=>", "+-", "*/%"}) {
            int at = lastOutside(s, signs);
            if (at > 0) {
                return joined(s.charAt(at), of(s.substring(0, at), names), of(s.substring(at + 1), names));
            }
        }
        char c = s.charAt(0);
        if (c == '!') {
            return of(s.substring(1), names) == 0 ? 1 : 0;
        }
        if (c == '-') {
            return -of(s.substring(1), names);
        }
        if (c == '(') {
            return of(s.substring(1, s.length() - 1), names);
        }
        int name = "zlwtcf".indexOf(c);
        return name >= 0 ? names[name] : Integer.parseInt(s);
    }

    /** The last of the signs outside of brackets that has an operand just ahead of it; -1: none. */
    private static int lastOutside(String s, String signs) {
        int depth = 0;
        int last = -1;
        for (int i = 0; i < s.length(); i++) {
            char c = s.charAt(i);
            depth += c == '(' ? 1 : c == ')' ? -1 : 0;
            boolean between = i > 0 && (Character.isLetterOrDigit(s.charAt(i - 1)) || s.charAt(i - 1) == ')');
            if (depth == 0 && between && c != ')' && signs.indexOf(c) >= 0) {
                last = i;
            }
        }
        return last;
    }

    private static int joined(char sign, int a, int b) {
        return switch (sign) {
            case '|' -> (a | b) != 0 ? 1 : 0;
            case '&' -> a == 0 || b == 0 ? 0 : 1;
            case '<' -> a < b ? 1 : 0;
            case '=' -> a == b ? 1 : 0;
            case '>' -> a > b ? 1 : 0;
            case '+' -> a + b;
            case '-' -> a - b;
            case '*' -> a * b;
            case '/' -> b == 0 ? 0 : (int) ((long) a / b);
            default -> b == 0 ? 0 : (int) ((long) a % b);
        };
    }
}
