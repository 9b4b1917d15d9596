import java.util.ArrayDeque;
import java.util.Deque;

/** The faults of texts once more, sign by sign with states instead of by descent. */
final class PlainFaults {
    private PlainFaults() {
    }

    static int county(String text) {
        int children = 0;
        int elders = 0;
        int rules = 0;
        char clause = 0;
        String seen = "";
        int i = 0;
        boolean wantsClause = true;
        while (true) {
            while (i < text.length() && text.charAt(i) == ' ') {
                i++;
            }
            if (i == text.length()) {
                return wantsClause || children == 0 ? i : -1;
            }
            char sign = text.charAt(i);
            if (wantsClause) {
                boolean fits = sign == 'c' && children++ < 8 || sign == 'e' && elders++ < 4 || sign == 'r' && rules++ < 1;
                if (!fits) {
                    return i;
                }
                clause = sign;
                seen = "";
                wantsClause = false;
                i++;
            } else if (sign == ';') {
                wantsClause = true;
                i++;
            } else {
                String letters = clause == 'c' ? "akwnsy" : clause == 'e' ? "afk" : "gup";
                if (letters.indexOf(sign) < 0 || seen.indexOf(sign) >= 0) {
                    return i;
                }
                seen += sign;
                i++;
                while (i < text.length() && text.charAt(i) == ' ') {
                    i++;
                }
                int from = i;
                while (i < text.length() && i - from < 3 && Character.isDigit(text.charAt(i))) {
                    i++;
                }
                if (i == from) {
                    return i;
                }
                if (i - from == 3) {
                    return i - 1;
                }
                int number = Integer.parseInt(text.substring(from, i));
                if (number < least(clause, sign) || number > most(clause, sign)) {
                    return i - 1;
                }
            }
        }
    }

    private static int least(char clause, char letter) {
        return "cs cy rg ru".contains("" + clause + letter) ? 1 : 0;
    }

    private static int most(char clause, char letter) {
        switch ("" + clause + letter) {
            case "ca": case "ea": case "rg": return 99;
            case "cn": return 4;
            case "cy": return 3;
            default: return 9;
        }
    }

    /** A pair of brackets that stands open, or the clause itself. */
    private static final class Frame {
        final char kind;
        boolean compared;
        int nots;

        Frame(char kind) {
            this.kind = kind;
        }
    }

    private enum State { WANTS_Y, WANTS_COLON, UNIT_START, OPERAND, BEHIND_OPERAND, BEHIND_UNIT }

    static int law(String text) {
        Deque<Frame> open = new ArrayDeque<>();
        State state = State.WANTS_Y;
        boolean answering = false;
        boolean condition = false;
        for (int i = 0; i <= text.length(); i++) {
            char sign = i < text.length() ? text.charAt(i) : 0;
            if (sign == ' ') {
                continue;
            }
            int deep = open.size() - 1;
            for (Frame frame : open) {
                deep += frame.nots;
            }
            Frame top = open.peek();
            boolean last = open.size() == 1;
            switch (state) {
                case WANTS_Y:
                    if (sign != 'y') {
                        return i;
                    }
                    state = State.WANTS_COLON;
                    break;
                case WANTS_COLON:
                    if (sign != ':') {
                        return i;
                    }
                    open.clear();
                    open.push(new Frame('.'));
                    answering = false;
                    condition = false;
                    state = State.UNIT_START;
                    break;
                case UNIT_START:
                    if ((sign == '!' || sign == '(') && deep < 6) {
                        condition = true;
                        if (sign == '!') {
                            top.nots++;
                        } else {
                            open.push(new Frame('('));
                        }
                        break;
                    }
                    // falls through
                case OPERAND:
                    if (sign == '[' && deep < 6) {
                        open.push(new Frame('['));
                        state = State.OPERAND;
                    } else if (Character.isDigit(sign)) {
                        int from = i;
                        while (i + 1 < text.length() && Character.isDigit(text.charAt(i + 1))) {
                            i++;
                            if (i - from == 4) {
                                return i;
                            }
                        }
                        state = State.BEHIND_OPERAND;
                    } else if (sign != 0 && "caknmw".indexOf(sign) >= 0) {
                        state = State.BEHIND_OPERAND;
                    } else {
                        return i;
                    }
                    break;
                case BEHIND_OPERAND:
                    if (sign != 0 && "+-*/".indexOf(sign) >= 0) {
                        state = State.OPERAND;
                        break;
                    }
                    if (top.kind == '[') {
                        if (sign != ']') {
                            return i;
                        }
                        open.pop();
                        break;
                    }
                    if (answering || last && !condition && (sign == ';' || sign == 0)) {
                        if (sign == 0) {
                            return -1;
                        }
                        if (sign != ';') {
                            return i;
                        }
                        state = State.WANTS_Y;
                        break;
                    }
                    if (!top.compared) {
                        if (sign != '=' && sign != '<' && sign != '>') {
                            return i;
                        }
                        top.compared = true;
                        condition = true;
                        state = State.OPERAND;
                        break;
                    }
                    // falls through
                case BEHIND_UNIT:
                    if (sign == '&' || sign == '|') {
                        top.compared = false;
                        top.nots = 0;
                        state = State.UNIT_START;
                    } else if (sign == '?' && last) {
                        top.compared = false;
                        top.nots = 0;
                        answering = true;
                        state = State.OPERAND;
                    } else if (sign == ')' && top.kind == '(') {
                        open.pop();
                        state = State.BEHIND_UNIT;
                    } else {
                        return i;
                    }
                    break;
            }
        }
        return -1;
    }
}
