/** What the tests share: feeding texts, and counting the answers that are not as due. */
final class Check {
    /** What answer() gives where child() throws as the document says. */
    static final int THROWN = Integer.MIN_VALUE;

    private static int wrong = 0;
    private static int asked = 0;

    private Check() {
    }

    static void due(String what, long got, long want) {
        asked++;
        if (got != want) {
            wrong++;
            if (wrong <= 40) {
                System.out.println(what + " answered " + got + ", due is " + want);
            }
        }
    }

    static void due(String what, boolean got, boolean want) {
        due(what, got ? 1 : 0, want ? 1 : 0);
    }

    static boolean isClean() {
        return wrong == 0;
    }

    static void close() {
        System.out.println(asked + " answers, " + wrong + " of them not as due");
        if (wrong != 0 || asked == 0) {
            System.exit(1);
        }
    }

    static int child(CountRule x, int child, int what) {
        try {
            return x.child(child, what);
        } catch (java.util.NoSuchElementException e) {
            return THROWN;
        }
    }

    /** Feeds the text to the tape as it is, twenty bytes at a time; the last answer of feed. */
    static int feed(CountRule x, String text) {
        int answer = x.count(3);
        for (int from = 0; from < text.length(); from += 20) {
            int[] words = new int[5];
            for (int i = 0; i < 20 && from + i < text.length(); i++) {
                words[i / 4] |= (text.charAt(from + i) & 255) << (24 - i % 4 * 8);
            }
            answer = x.feed(words[0], words[1], words[2], words[3], words[4]);
        }
        return answer;
    }

    static int fault(int sort, String text) {
        CountRule x = new CountRule();
        feed(x, text);
        return x.fault(sort);
    }

    static CountRule county(String text) {
        CountRule x = new CountRule();
        tell(x, 0, text);
        return x;
    }

    static int tell(CountRule x, int sort, String text) {
        x.end(0);
        feed(x, text);
        int answer = x.text(sort);
        if (answer < 0) {
            throw new IllegalStateException("refused: " + text);
        }
        return answer;
    }
}
