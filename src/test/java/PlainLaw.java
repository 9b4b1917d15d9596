/** The worth of a law once more, by cutting its text (without blanks, without a fault) in two. */
final class PlainLaw {
    private PlainLaw() {
    }

    static int worth(String law, int[] caknmw) {
        for (String clause : law.split(";")) {
            String body = clause.substring(2);
            int asks = body.indexOf('?');
            if (asks < 0) {
                return sum(body, caknmw);
            }
            if (holds(body.substring(0, asks), caknmw)) {
                return sum(body.substring(asks + 1), caknmw);
            }
        }
        return 0;
    }

    private static boolean holds(String text, int[] caknmw) {
        int at = lastOutside(text, "|");
        if (at >= 0) {
            return holds(text.substring(0, at), caknmw) | holds(text.substring(at + 1), caknmw);
        }
        at = lastOutside(text, "&");
        if (at >= 0) {
            return holds(text.substring(0, at), caknmw) & holds(text.substring(at + 1), caknmw);
        }
        if (text.startsWith("!")) {
            return !holds(text.substring(1), caknmw);
        }
        if (text.startsWith("(")) {
            return holds(text.substring(1, text.length() - 1), caknmw);
        }
        at = lastOutside(text, "=<>");
        int first = sum(text.substring(0, at), caknmw);
        int second = sum(text.substring(at + 1), caknmw);
        char sign = text.charAt(at);
        return sign == '=' ? first == second : sign == '<' ? first < second : first > second;
    }

    private static int sum(String text, int[] caknmw) {
        int at = lastOutside(text, "+-");
        if (at < 0) {
            at = lastOutside(text, "*/");
        }
        if (at >= 0) {
            long first = sum(text.substring(0, at), caknmw);
            long second = sum(text.substring(at + 1), caknmw);
            long result;
            switch (text.charAt(at)) {
                case '+': result = first + second; break;
                case '-': result = first - second; break;
                case '*': result = first * second; break;
                default: result = second == 0 ? 0 : first / second; break;
            }
            return (int) Math.max(-1000000, Math.min(1000000, result));
        }
        if (text.startsWith("[")) {
            return sum(text.substring(1, text.length() - 1), caknmw);
        }
        int letter = "caknmw".indexOf(text.charAt(0));
        return letter >= 0 ? caknmw[letter] : Integer.parseInt(text);
    }

    private static int lastOutside(String text, String signs) {
        int deep = 0;
        for (int i = text.length() - 1; i >= 0; i--) {
            char sign = text.charAt(i);
            if (sign == ')' || sign == ']') {
                deep++;
            } else if (sign == '(' || sign == '[') {
                deep--;
            } else if (deep == 0 && signs.indexOf(sign) >= 0) {
                return i;
            }
        }
        return -1;
    }
}
