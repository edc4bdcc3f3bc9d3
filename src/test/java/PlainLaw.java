import java.util.ArrayDeque;
import java.util.Deque;

/** The law's text by other means: its FAULT byte by byte, its worth by taking the text apart. */
final class PlainLaw {
    private static final String NAMES = "sprijzmch";

    private PlainLaw() {
    }

    /** What is open at a byte, and what may come next. */
    private static final class Reader {
        final Deque<Character> open = new ArrayDeque<>();
        final Deque<Boolean> comparedOutside = new ArrayDeque<>();
        boolean compared = false;
        boolean wantsOperand = true;
        boolean asked = false;
        int digits = 0;

        boolean takes(char c) {
            boolean digit = c >= '0' && c <= '9';
            if (!digit) {
                boolean goesOn = wantsOperand ? takesOperand(c) : takesBehindOperand(c);
                digits = 0;
                return goesOn;
            }
            if (!wantsOperand && (digits == 0 || digits == 4)) return false;
            digits = wantsOperand ? 1 : digits + 1;
            closeSigns();
            return true;
        }

        private boolean takesOperand(char c) {
            if (NAMES.indexOf(c) >= 0) {
                closeSigns();
                return true;
            }
            if ("(!-".indexOf(c) < 0 || open.size() == 6) return false;
            open.push(c);
            if (c == '(') {
                comparedOutside.push(compared);
                compared = false;
            }
            return true;
        }

        private boolean takesBehindOperand(char c) {
            boolean outside = comparedOutside.isEmpty();
            if (c == ')') {
                if (outside) return false;
                open.pop();
                compared = comparedOutside.pop();
                closeSigns();
                return true;
            }
            if ("<=>".indexOf(c) >= 0) {
                if (compared) return false;
                compared = true;
            } else if ("|&".indexOf(c) >= 0) {
                compared = false;
            } else if (c == '?') {
                if (!outside || asked) return false;
                asked = true;
                compared = false;
            } else if (c == ';') {
                if (!outside) return false;
                asked = false;
                compared = false;
            } else if ("+-*/%".indexOf(c) < 0) {
                return false;
            }
            wantsOperand = true;
            return true;
        }

        private void closeSigns() {
            while (!open.isEmpty() && open.peek() != '(') open.pop();
            wantsOperand = false;
        }
    }

    static int fault(String text) {
        Reader reader = new Reader();
        for (int k = 0; k < text.length(); k++) {
            if (!reader.takes(text.charAt(k))) return k;
        }
        boolean whole = !reader.wantsOperand && reader.comparedOutside.isEmpty();
        return whole ? -1 : text.length();
    }

    static int worth(String text, int[] known) {
        for (String line : text.split(";")) {
            int ask = line.indexOf('?');
            if (ask < 0) return value(line, known);
            if (value(line.substring(0, ask), known) != 0) return value(line.substring(ask + 1), known);
        }
        return 0;
    }

    private static int value(String e, int[] known) {
        for (String signs : new String[] {"|", "&", "<=>", "+-", "*/%"}) {
            int at = lastOutside(e, signs);
            if (at > 0) return joined(value(e.substring(0, at), known), e.charAt(at), value(e.substring(at + 1), known));
        }
        char c = e.charAt(0);
        if (c == '!') return value(e.substring(1), known) == 0 ? 1 : 0;
        if (c == '-') return 0 - value(e.substring(1), known);
        if (c == '(') return value(e.substring(1, e.length() - 1), known);
        int name = NAMES.indexOf(c);
        return name >= 0 ? known[name] : Integer.parseInt(e);
    }

    /** The last of these signs that stands between two operands, outside all ( ). */
    private static int lastOutside(String e, String signs) {
        int depth = 0;
        for (int k = e.length() - 1; k > 0; k--) {
            char c = e.charAt(k);
            if (c == ')') depth++;
            if (c == '(') depth--;
            if (depth == 0 && signs.indexOf(c) >= 0 && "(!-+*/%<=>&|".indexOf(e.charAt(k - 1)) < 0) return k;
        }
        return -1;
    }

    private static int joined(int a, char sign, int b) {
        boolean truth;
        switch (sign) {
            case '+': return a + b;
            case '-': return a - b;
            case '*': return a * b;
            case '/': return b == 0 ? 0 : (int) ((long) a / b);
            case '%': return b == 0 ? 0 : (int) ((long) a % b);
            case '<': truth = a < b; break;
            case '=': truth = a == b; break;
            case '>': truth = a > b; break;
            case '&': truth = a != 0 & b != 0; break;
            default: truth = a != 0 | b != 0;
        }
        return truth ? 1 : 0;
    }
}
