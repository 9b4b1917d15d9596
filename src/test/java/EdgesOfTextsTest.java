/** The sentences on texts that name a boundary, each on both its sides: "Terms" 1, promises 2 to 5 and 9. */
public final class EdgesOfTextsTest {
    private static final int NONE = -1;
    private static final int COUNTY = 0;
    private static final int LAW = 1;
    private static final String DIGITS = "0123456789";
    private static final String ATOM = DIGITS + "caknmw[";
    private static final String EIGHT = "c;c;c;c;c;c;c;c";

    private EdgesOfTextsTest() {
    }

    public static void main(String[] args) {
        feedTakesTwentyBytesInOrder();
        feedLeavesOutZeros();
        feedTakesUpTo240();
        endKeepsTheFirst();
        faultKnowsTwoSorts();
        clausesOfCounties();
        howManyClauses();
        eachItemHasBounds();
        itemsHaveOneOrTwoDigits();
        eachLetterOnceInAClause();
        signsBehindOneAnotherInCounties();
        signsBehindOneAnotherInLaws();
        countiesThatEndTooEarly();
        lawsThatEndTooEarly();
        blanksStandBetweenSigns();
        numbersOfLaws();
        sixWithinOneAnother();
        sixThatAllWait();
        longTexts();
        textTakesTheCounty();
        textTakesFourLaws();
        sumsStayWithinAMillion();
        divisionCutsTowardsZero();
        comparisonsOnBothSides();
        truths();
        theFirstClauseThatHolds();
        Check.close();
    }

    private static void due(String what, long got, long want) {
        Check.due(what, got, want);
    }

    private static void due(String what, boolean got, boolean want) {
        Check.due(what, got, want);
    }

    /** The fault, that looking changes nothing, and that the text is taken just without one. */
    private static void fault(String sentence, int sort, String text, int want) {
        CountRule x = new CountRule();
        Check.feed(x, text);
        String what = sentence + ": \"" + text + "\"";
        due(what, x.fault(sort), want);
        due(what + ", looked at again", x.fault(sort), want);
        due(what + ", the tape stays", x.count(3), text.length());
        due(what + ", taken", x.text(sort) != NONE, want == NONE);
        due(what + ", the tape then", x.count(3), want == NONE ? 0 : text.length());
        due(what + ", there is one then", x.count(sort == COUNTY ? 0 : 2) > 0, want == NONE);
    }

    private static int word(String four) {
        int word = 0;
        for (int i = 0; i < 4; i++) {
            word = word << 8 | four.charAt(i) & 255;
        }
        return word;
    }

    private static int feedTwenty(CountRule x, String text) {
        return x.feed(word(text.substring(0, 4)), word(text.substring(4, 8)), word(text.substring(8, 12)),
            word(text.substring(12, 16)), word(text.substring(16, 20)));
    }

    private static String with(String text, int place, char sign) {
        return text.substring(0, place) + sign + text.substring(place + 1);
    }

    // ---- promise 2

    private static void feedTakesTwentyBytesInOrder() {
        String text = "c;c;c;c;c;c;c;c;e;e ";
        for (int place = 0; place < 20; place++) {
            CountRule x = new CountRule();
            due("2: twenty bytes", feedTwenty(x, with(text, place, 'x')), 20);
            due("2: byte " + place + " stands at its place", x.fault(COUNTY), place);
            x = new CountRule();
            due("2: a byte of 255 is one, too", feedTwenty(x, with(text, place, (char) 255)), 20);
            due("2: a byte of 255 stands at " + place, x.fault(COUNTY), place);
        }
    }

    private static void feedLeavesOutZeros() {
        String text = "c;c;c;c;c;c;c;c;e;e ";
        for (int place = 0; place < 20; place++) {
            CountRule x = new CountRule();
            due("2: a byte of 0 is left out at " + place, feedTwenty(x, with(text, place, (char) 0)), 19);
            x = new CountRule();
            due("2: all bytes but one are 0", feedTwenty(x, with("\0".repeat(20), place, 'c')), 1);
            due("2: and that one came from " + place, x.fault(COUNTY), NONE);
            due("2: a byte of 1 is not left out", feedTwenty(x, with("\0".repeat(20), place, (char) 1)), 2);
            due("2: nor a byte of 128", feedTwenty(x, with("\0".repeat(20), place, (char) 128)), 3);
        }
        due("2: all are 0", new CountRule().feed(0, 0, 0, 0, 0), 0);
    }

    private static void feedTakesUpTo240() {
        for (int there = 220; there <= 240; there++) {
            for (int more = 0; more <= 20; more++) {
                CountRule x = new CountRule();
                for (int i = 0; i < 12; i++) {
                    feedTwenty(x, " ".repeat(20));
                }
                x.end(there);
                boolean fits = there + more <= 240;
                String what = "2: " + more + " behind " + there;
                due(what, feedTwenty(x, "c".repeat(more) + "\0".repeat(20 - more)), fits ? there + more : NONE);
                due(what + ", how many there are", x.count(3), fits ? there + more : there);
                due(what + ", what is there", x.fault(COUNTY), !fits || more == 0 ? there : more == 1 ? NONE : there + 1);
            }
        }
    }

    // ---- promises 3 and 4

    private static void endKeepsTheFirst() {
        for (int size = 0; size <= 240; size += size < 3 ? 1 : 79) {
            for (int n : new int[] {Integer.MIN_VALUE, -2, -1, 0, 1, size - 1, size, size + 1, 240, 241, Integer.MAX_VALUE}) {
                CountRule x = new CountRule();
                Check.feed(x, "e".repeat(size));
                boolean may = n >= 0 && n <= size;
                due("3: end " + n + " of " + size, x.end(n), may);
                due("3: how many then", x.count(3), may ? n : size);
                due("3: what is there then", x.fault(COUNTY), Math.min(1, may ? n : size));
            }
        }
    }

    private static void faultKnowsTwoSorts() {
        for (int sort : new int[] {Integer.MIN_VALUE, -2, -1, 2, 3, Integer.MAX_VALUE}) {
            due("4: no such sort " + sort, new CountRule().fault(sort), -2);
            due("4: no such sort " + sort + " of a county", Check.fault(sort, "c"), -2);
            due("5: no such sort " + sort, new CountRule().text(sort), NONE);
            CountRule x = new CountRule();
            Check.feed(x, "c");
            due("5: no such sort " + sort + " of a county", x.text(sort), NONE);
            due("5: the tape stays", x.count(3), 1);
            due("5: no county came", x.count(0), 0);
        }
        fault("4: a county is no law", LAW, "c", 0);
        fault("4: a law is no county", COUNTY, "y:1", 0);
    }

    // ---- counties

    private static void clausesOfCounties() {
        fault("clauses with ; between", COUNTY, "c", NONE);
        fault("clauses with ; between", COUNTY, "c;c", NONE);
        fault("clauses with ; between", COUNTY, "cc", 1);
        fault("clauses with ; between", COUNTY, "ce", 1);
        fault("clauses with ; between", COUNTY, ";c", 0);
        fault("clauses with ; between", COUNTY, "c;", 2);
        fault("clauses with ; between", COUNTY, "c;;c", 2);
        String[] orders = {"ck4;ek5;ru6", "ck4;ru6;ek5", "ek5;ck4;ru6", "ek5;ru6;ck4", "ru6;ck4;ek5", "ru6;ek5;ck4"};
        for (String order : orders) {
            fault("in any order", COUNTY, order, NONE);
            CountRule x = Check.county(order);
            due("in any order, child of " + order, Check.child(x, 0, 1), 15);
            due("in any order, elder of " + order, x.elder(0, 2), 31);
            due("in any order, rule of " + order, x.rule(1), 6);
        }
        CountRule x = Check.county("ek1;ca1;ek2;ca2;r;ca3;ek3");
        for (int i = 0; i < 3; i++) {
            due("numbers of children are those of their clauses", Check.child(x, i, 0), i + 1);
            due("numbers of elders, too", x.elder(i, 2), (2 << i) - 1);
        }
    }

    private static void howManyClauses() {
        fault("a child at least", COUNTY, "", 0);
        fault("a child at least", COUNTY, "e", 1);
        fault("a child at least", COUNTY, "r", 1);
        fault("a child at least", COUNTY, "e;e;e;e;r", 9);
        fault("a child at least", COUNTY, "e;e;e;e;r;c", NONE);
        for (int children = 1; children <= 8; children++) {
            CountRule x = new CountRule();
            Check.feed(x, EIGHT.substring(0, 2 * children - 1));
            due("1 to 8 children, without elders", x.text(COUNTY), children);
            due("so many there are", x.count(0), children);
            due("no elder is fine", x.count(1), 0);
        }
        fault("a ninth c", COUNTY, EIGHT + ";c", 16);
        fault("a ninth c, more behind it", COUNTY, EIGHT + "; c;e", 17);
        fault("a ninth c, of elders and a rule", COUNTY, "e;r;" + EIGHT + ";e;c", 22);
        for (int elders = 0; elders <= 4; elders++) {
            due("none to 4 elders", Check.county("c" + ";e".repeat(elders)).count(1), elders);
        }
        fault("four elders", COUNTY, "e;e;e;e;c", NONE);
        fault("a fifth e", COUNTY, "e;e;e;e;e", 8);
        fault("a fifth e behind children", COUNTY, "c;e;e;c;e;e;c;e", 14);
        fault("no rule", COUNTY, "c", NONE);
        fault("a rule", COUNTY, "r;c", NONE);
        fault("a second r", COUNTY, "r;r", 2);
        fault("a second r", COUNTY, "r;c;rg1", 4);
        fault("all of them", COUNTY, EIGHT + ";e;e;e;e;r", NONE);
        fault("all of them, and a ninth c", COUNTY, EIGHT + ";e;e;e;e;r;c", 26);
        fault("all of them, and a fifth e", COUNTY, EIGHT + ";e;e;e;e;r;e", 26);
        fault("all of them, and a second r", COUNTY, EIGHT + ";e;e;e;e;r;r", 26);
        CountRule x = new CountRule();
        Check.feed(x, "r;c;r");
        due("a second r, each time anew", x.fault(COUNTY), 4);
        due("a second r, each time anew", x.fault(COUNTY), 4);
        x.end(3);
        due("a rule, each time anew", x.fault(COUNTY), NONE);
        due("a rule, each time anew", x.text(COUNTY), 1);
    }

    private static void eachItemHasBounds() {
        item("ca", 0, 99, 40);
        item("ck", 0, 9, 0);
        item("cw", 0, 9, 9);
        item("cn", 0, 4, 0);
        item("cs", 1, 9, 2);
        item("cy", 1, 3, 1);
        item("ea", 0, 99, 70);
        item("ef", 0, 9, 0);
        item("ek", 0, 9, 9);
        item("rg", 1, 99, 90);
        item("ru", 1, 9, 9);
        item("rp", 0, 9, 1);
    }

    private static void item(String item, int least, int most, int without) {
        char clause = item.charAt(0);
        String ahead = clause == 'c' ? "" : "c;";
        due(item + " without", valueOf(Check.county(ahead + clause), item), without);
        for (int number = 0; number < 100; number++) {
            String text = ahead + item + number;
            boolean may = number >= least && number <= most;
            fault(item + " is " + least + " to " + most, COUNTY, text, may ? NONE : text.length() - 1);
            fault("out of bounds at its last digit, whatever stands behind it", COUNTY, text + " ;x", may ? text.length() + 2 : text.length() - 1);
            if (may) {
                due(item + " as told", valueOf(Check.county(text), item), number);
            }
            String two = ahead + item + number / 10 + number % 10;
            fault(item + " with two digits", COUNTY, two, may ? NONE : two.length() - 1);
            if (may) {
                due(item + " with two digits as told", valueOf(Check.county(two), item), number);
            }
        }
    }

    private static int valueOf(CountRule x, String item) {
        switch (item) {
            case "ca": return Check.child(x, 0, 0);
            case "ck": return fromBelow(Check.child(x, 0, 1));
            case "cw": return Check.child(x, 0, 2) == 0 ? 9 : Integer.numberOfTrailingZeros(Check.child(x, 0, 2));
            case "cn": return Check.child(x, 0, 3);
            case "cs": return Check.child(x, 0, 4);
            case "cy": return Check.child(x, 0, 5);
            case "ea": return x.elder(0, 0);
            case "ef": return x.elder(0, 1);
            case "ek": return fromBelow(x.elder(0, 2));
            case "rg": return x.rule(0);
            case "ru": return x.rule(1);
            default: return x.rule(2);
        }
    }

    private static int fromBelow(int bits) {
        int tens = Integer.bitCount(bits);
        return bits == (1 << tens) - 1 ? tens : -2;
    }

    private static void itemsHaveOneOrTwoDigits() {
        for (String item : new String[] {"ca", "ck", "cw", "cn", "cs", "cy", "ea", "ef", "ek", "rg", "ru", "rp"}) {
            fault("no digit", COUNTY, item, 2);
            fault("no digit", COUNTY, item + ";c", 2);
            fault("no digit", COUNTY, item + " ", 3);
            for (String digits : new String[] {"000", "001", "011", "100", "999", "990"}) {
                fault("a third digit itself, whatever stands ahead of it", COUNTY, item + digits, 4);
                fault("a third digit itself, with a fourth", COUNTY, item + digits + "1", 4);
            }
            fault("a digit behind a blank is no third one", COUNTY, item + "01 1", 5);
            fault("a digit behind a blank is no second one", COUNTY, item + "1 1", 4);
        }
    }

    private static void eachLetterOnceInAClause() {
        String[] clauses = {"ca1k1w1n1s1y1", "ea1f1k1", "rg1u1p1"};
        for (String clause : clauses) {
            fault("each letter once", COUNTY, "c;" + (clause.charAt(0) == 'c' ? "e;" : "") + clause, NONE);
            for (int i = 1; i < clause.length(); i += 2) {
                String again = clause + clause.charAt(i) + "1";
                fault("a letter that was there", COUNTY, again, clause.length());
                String apart = clause.substring(0, 1) + clause.charAt(i) + "1" + clause.charAt(i);
                fault("a letter that was there, at once and without a number", COUNTY, apart, 3);
            }
        }
        fault("a letter in another clause", COUNTY, "ca1k2;ca1k2;ea1k2;ea1k2", NONE);
        CountRule x = Check.county("cy3s4n2w5k6a7;rp3u4g5;ek2f3a4");
        int[] told = {7, 63, 32, 2, 4, 3};
        for (int what = 0; what < 6; what++) {
            due("items in any order, " + what, Check.child(x, 0, what), told[what]);
        }
        due("items of a rule in any order", x.rule(0) * 100 + x.rule(1) * 10 + x.rule(2), 543);
        due("items of an elder in any order", x.elder(0, 0) * 100 + x.elder(0, 1) * 10 + x.elder(0, 2), 433);
    }

    /** Behind these signs just the allowed ones and a blank can follow: each other byte is the fault itself. */
    private static void goesOn(int sort, String ahead, boolean whole, String allowed) {
        fault("ends here", sort, ahead, whole ? NONE : ahead.length());
        for (int sign = 1; sign < 256; sign++) {
            boolean may = sign == ' ' || allowed.indexOf(sign) >= 0;
            int fault = Check.fault(sort, ahead + (char) sign);
            due("sign " + sign + " behind \"" + ahead + "\"", fault != ahead.length(), may);
            due("sign " + sign + " spoils nothing ahead of it in \"" + ahead + "\"", fault == NONE || fault >= ahead.length(), true);
        }
    }

    private static void signsBehindOneAnotherInCounties() {
        goesOn(COUNTY, "", false, "cer");
        goesOn(COUNTY, " ", false, "cer");
        goesOn(COUNTY, "c", true, ";akwnsy");
        goesOn(COUNTY, "e", false, ";afk");
        goesOn(COUNTY, "r", false, ";gup");
        goesOn(COUNTY, "ca", false, DIGITS);
        goesOn(COUNTY, "ca1", true, ";kwnsy" + DIGITS);
        goesOn(COUNTY, "ca12", true, ";kwnsy");
        goesOn(COUNTY, "ca1k2", true, ";wnsy");
        goesOn(COUNTY, "ck0", true, ";awnsy" + DIGITS);
        goesOn(COUNTY, "ck1", true, ";awnsy");
        goesOn(COUNTY, "cn0", true, ";akwsy01234");
        goesOn(COUNTY, "ca1k2w3n4s5y1", true, ";");
        goesOn(COUNTY, "c;", false, "cer");
        goesOn(COUNTY, "e;", false, "cer");
        goesOn(COUNTY, "r;", false, "ce");
        goesOn(COUNTY, "c;ea1f2k3", true, ";");
        goesOn(COUNTY, "c;rg1u2p3", true, ";");
        goesOn(COUNTY, EIGHT + ";", false, "er");
        goesOn(COUNTY, "c;e;e;e;e;", false, "cr");
        goesOn(COUNTY, EIGHT + ";e;e;e;e;", false, "r");
        goesOn(COUNTY, EIGHT + ";e;e;e;e;r;", false, "");
    }

    private static void countiesThatEndTooEarly() {
        String text = " c a 12 k 3 ; e f 2 ; r g 50 ";
        for (int length = 0; length <= text.length(); length++) {
            String told = text.substring(0, length);
            String bare = told.trim();
            boolean atClause = bare.equals("c") || bare.endsWith("; e") || bare.endsWith("; r");
            boolean atDigit = !bare.isEmpty() && Character.isDigit(bare.charAt(bare.length() - 1));
            fault("the length, if it ends too early", COUNTY, told, atClause || atDigit ? NONE : length);
        }
    }

    private static void blanksStandBetweenSigns() {
        String wide = "  c  a  12  k  3  ;  e  f  2  ;  r  g  50  ";
        fault("blanks between all signs", COUNTY, wide, NONE);
        CountRule x = Check.county(wide);
        due("blanks change nothing", Check.child(x, 0, 0) == 12 && Check.child(x, 0, 1) == 7 && x.elder(0, 1) == 2 && x.rule(0) == 50, true);
        fault("no blank within a number", COUNTY, "ca1 2", 4);
        fault("a blank ahead of a number", COUNTY, "ca 12", NONE);
        fault("blanks alone", COUNTY, "   ", 3);
        fault("blanks alone", LAW, "   ", 3);
        String law = " y : ! ( c = 1 & a > 20 | k < 3 ) ? [ c + 1 ] * 2 - 3 / n ; y : m ";
        fault("blanks between all signs", LAW, law, NONE);
        fault("no blanks at all", LAW, law.replace(" ", ""), NONE);
        fault("no blank within a number", LAW, "y:12 34", 5);
        fault("no blank within a number", LAW, "y:c=1 2?3", 6);
        for (char sign : new char[] {9, 10, 11, 12, 13, 31, 33, 127, 160}) {
            fault("no other sign is a blank", COUNTY, "c" + sign, 1);
            fault("no other sign is a blank", LAW, "y" + sign + ":1", 1);
        }
        fault("the first fault of several", COUNTY, "ck10;x;cs0", 3);
        fault("the first fault of several", LAW, "y:c=1?+;z", 6);
    }

    // ---- laws

    private static void signsBehindOneAnotherInLaws() {
        goesOn(LAW, "", false, "y");
        goesOn(LAW, "y", false, ":");
        goesOn(LAW, "y:", false, ATOM + "(!");
        goesOn(LAW, "y:1", true, DIGITS + "+-*/=<>;");
        goesOn(LAW, "y:c", true, "+-*/=<>;");
        goesOn(LAW, "y:c;", false, "y");
        goesOn(LAW, "y:c=a", false, "+-*/&|?");
        goesOn(LAW, "y:c=a&", false, ATOM + "(!");
        goesOn(LAW, "y:c=a|", false, ATOM + "(!");
        goesOn(LAW, "y:c=a&k", false, "+-*/=<>");
        goesOn(LAW, "y:c=a|k", false, "+-*/=<>");
        goesOn(LAW, "y:c=a|k<n", false, "+-*/&|?");
        goesOn(LAW, "y:c=a?", false, ATOM);
        goesOn(LAW, "y:c=a?k", true, "+-*/;");
        goesOn(LAW, "y:c=a?7", true, "+-*/;" + DIGITS);
        goesOn(LAW, "y:c=a?[k]", true, "+-*/;");
        for (char sign : "+-*/=<>".toCharArray()) {
            goesOn(LAW, "y:c" + sign, false, ATOM);
        }
        goesOn(LAW, "y:(", false, ATOM + "(!");
        goesOn(LAW, "y:(c", false, "+-*/=<>");
        goesOn(LAW, "y:(c=a", false, "+-*/&|)");
        goesOn(LAW, "y:(c=a)", false, "&|?");
        goesOn(LAW, "y:((c=a)", false, "&|)");
        goesOn(LAW, "y:!", false, ATOM + "(!");
        goesOn(LAW, "y:!c", false, "+-*/=<>");
        goesOn(LAW, "y:!c=a", false, "+-*/&|?");
        goesOn(LAW, "y:(!c=a", false, "+-*/&|)");
        goesOn(LAW, "y:(!c=a)?1", true, "+-*/;" + DIGITS);
        goesOn(LAW, "y:[", false, ATOM);
        goesOn(LAW, "y:[c", false, "+-*/]");
        goesOn(LAW, "y:[c]", true, "+-*/=<>;");
        goesOn(LAW, "y:[c]=[a", false, "+-*/]");
        goesOn(LAW, "y:[c]=[a]", false, "+-*/&|?");
        goesOn(LAW, "y:([c]", false, "+-*/=<>");
    }

    private static void lawsThatEndTooEarly() {
        String text = "y:!(c=[1+a])&k>2|n<m*w/3?4-5;y:6";
        for (int length = 0; length <= text.length(); length++) {
            String told = text.substring(0, length);
            boolean whole = told.endsWith("?4") || told.endsWith("-5") || told.endsWith("y:6");
            fault("the length, if it ends too early", LAW, told, whole ? NONE : length);
        }
    }

    private static void numbersOfLaws() {
        for (String ahead : new String[] {"y:", "y:c+", "y:[", "y:c=", "y:c=1?"}) {
            String behind = ahead.endsWith("[") ? "]" : ahead.endsWith("=") ? "?1" : "";
            for (String digits : new String[] {"0", "9", "00", "99", "000", "999", "0000", "9999"}) {
                fault("1 to 4 digits", LAW, ahead + digits + behind, NONE);
            }
            for (String digits : new String[] {"00000", "00001", "10000", "99999", "999999"}) {
                fault("a fifth digit itself", LAW, ahead + digits + behind, ahead.length() + 4);
            }
            fault("no digit", LAW, ahead + behind, ahead.length());
        }
    }

    private static void sixWithinOneAnother() {
        for (int deep = 1; deep <= 8; deep++) {
            fault("at most six of [", LAW, "y:" + "[".repeat(deep) + "1" + "]".repeat(deep), deep <= 6 ? NONE : 8);
            fault("at most six of (", LAW, "y:" + "(".repeat(deep) + "c=1" + ")".repeat(deep) + "?1", deep <= 6 ? NONE : 8);
            fault("at most six of !", LAW, "y:" + "!".repeat(deep) + "c=1?1", deep <= 6 ? NONE : 8);
            fault("at most six of [ in a compared sum", LAW, "y:c=" + "[".repeat(deep) + "1" + "]".repeat(deep) + "?1", deep <= 6 ? NONE : 10);
            fault("at most six of [ behind ?", LAW, "y:c=1?" + "[".repeat(deep) + "1" + "]".repeat(deep), deep <= 6 ? NONE : 12);
        }
        // each row of six of the three sorts, and a seventh of each sort within it
        for (int row = 0; row < 64; row++) {
            StringBuilder open = new StringBuilder();
            StringBuilder close = new StringBuilder();
            for (int i = 0; i < 6; i++) {
                boolean not = (row >> i & 1) == 1;
                open.append(not ? '!' : '(');
                close.append(not ? "" : ")");
            }
            fault("six of ( !", LAW, "y:" + open + "c=1" + close + "?1", NONE);
            for (char seventh : "(![".toCharArray()) {
                fault("a seventh", LAW, "y:" + open + seventh, 8);
            }
            fault("a seventh behind = and +", LAW, "y:" + open + "c=1+[", 12);
            fault("the sixth is [", LAW, "y:" + open.substring(0, 5) + "[c]=1", 12);
        }
        fault("side by side, not within one another", LAW, "y:" + "!!!!!!c=1&".repeat(6) + "!!!!!!c=1?[[[[[[1]]]]]]+[[[[[[1]]]]]]", NONE);
        fault("a unit's ! ends with the unit", LAW, "y:!!!!!!c=1&[c]=1&(!c=1)?1", NONE);
        fault("closed ones do not count", LAW, "y:((((((c=1)))))&[[[[[c]]]]]=1)?1", NONE);
        fault("closed ones do not count, the seventh does", LAW, "y:((((((c=1)))))&[[[[[[c", 22);
    }

    /** Each depth leaves as much unfinished as it can: what is reckoned deepest must still be right. */
    private static void sixThatAllWait() {
        for (int round = 0; round <= 6; round++) {
            String ahead = "y:" + "1=2|1=1&(".repeat(round) + "1=2|1=1&";
            String behind = ")".repeat(round) + "?7;y:8";
            String inner = "[0+1*".repeat(6 - round) + "3" + "]".repeat(6 - round);
            tax(ahead + "7=4+1*" + inner + behind, 7);
            tax(ahead + "6=4+1*" + inner + behind, 8);
            tax(ahead + "4+1*" + inner + "=7" + behind, 7);
        }
    }

    private static void longTexts() {
        String county = "ca99k9w9n4s9y3;".repeat(8) + "ea99f9k9;".repeat(4) + "rg99u9p9";
        fault("a county of 240 bytes", COUNTY, county + " ".repeat(240 - county.length()), NONE);
        fault("a law of many terms", LAW, "y:" + "0+".repeat(118) + "7 ", NONE);
        tax("y:" + "0+".repeat(118) + "7 ", 7);
        tax("y:" + "1*".repeat(118) + "8 ", 8);
        tax("y:c=1?2;".repeat(29) + "y:5     ", 5);
        tax("y:" + "1=1&".repeat(58) + "1=1?6", 6);
        tax("y:" + "1=1&".repeat(58) + "1=2?6", 0);
        tax("y:" + "1=2|".repeat(58) + "1=1?6", 6);
        tax("y:" + "1=2|".repeat(58) + "1=2?6", 0);
        tax("y:" + " ".repeat(237) + "9", 9);
    }

    // ---- promise 5

    private static void textTakesTheCounty() {
        CountRule x = new CountRule();
        Check.tell(x, LAW, "y:c/2");
        x.law(0);
        x.fever(31);
        Check.tell(x, COUNTY, "ca30k9s3;ca20;ef4;ek3;rg50u4p3");
        x.months(2);
        x.teach(1, 0);
        x.keep(1, 5, true);
        x.wrong(1, 6);
        x.image();
        due("5: there is much", x.count(6) == 0 && x.count(7) == 90 && x.count(10) == 2 && x.count(11) == 5, true);
        Check.feed(x, "cx");
        due("5: a fault", x.text(COUNTY), NONE);
        due("5: a fault changes nothing", x.count(5) == 2 && x.count(11) == 5 && x.count(3) == 2 && x.rule(0) == 50, true);
        x.end(0);
        due("5: an empty tape is a fault", x.text(COUNTY), NONE);
        due("5: nothing is changed", x.count(5) == 2 && x.count(11) == 5 && Check.child(x, 1, 6) == 0, true);
        Check.feed(x, "c;c");
        due("5: another county", x.text(COUNTY), 2);
        int[] counts = {2, 0, 1, 0, 0, 0, NONE, 0, 31, 0, 0, 0};
        for (int what = 0; what < counts.length; what++) {
            due("5: of another county, count " + what, x.count(what), counts[what]);
        }
        int[] fresh = {40, 0, 0, 0, 2, 1, NONE, 0, 0, 0, 0, 0};
        for (int child = 0; child < 2; child++) {
            for (int what = 0; what < 12; what++) {
                due("5: nothing of the old child " + child + ", " + what, Check.child(x, child, what), fresh[what]);
            }
        }
        due("5: no old rule", x.rule(0) * 100 + x.rule(1) * 10 + x.rule(2), 9091);
        due("5: no old elder", x.elder(0, 0), NONE);
        due("5: no old image", x.back(), NONE);
        due("5: no old acts", x.undo(), NONE);
        due("5: no old log", x.log(0, 0), -1000000);
    }

    private static void textTakesFourLaws() {
        CountRule x = new CountRule();
        for (int law = 0; law < 4; law++) {
            Check.feed(x, "y:" + (law + 1) + "x");
            due("5: a law with a fault", x.text(LAW), NONE);
            due("5: none came", x.count(2), law);
            due("5: its tape stays", x.count(3), 4);
            x.end(3);
            due("5: law " + law, x.text(LAW), law);
            due("5: its tape is empty", x.count(3), 0);
            due("5: it is there", x.count(2), law + 1);
            due("5: it does not hold by itself", x.count(4), NONE);
        }
        Check.feed(x, "y:5");
        due("5: there are four", x.text(LAW), NONE);
        due("5: there are four still", x.count(2), 4);
        due("5: a fifth one's tape stays", x.count(3), 3);
        due("5: though it has no fault", x.fault(LAW), NONE);
        Check.tell(x, COUNTY, "ck9");
        for (int law = 0; law < 4; law++) {
            due("5: law " + law + " stays behind a county", x.law(law), true);
            due("5: each as it was told", Check.child(x, 0, 11), law + 1);
        }
        due("9: no fifth law", x.law(4), false);
        due("9: the fourth one holds still", x.count(4), 3);
        due("9: below none", x.law(-2), false);
        due("9: far below", x.law(Integer.MIN_VALUE), false);
        due("9: far beyond", x.law(Integer.MAX_VALUE), false);
        due("9: it holds still", Check.child(x, 0, 11), 4);
        due("9: none", x.law(NONE), true);
        due("9: none holds", x.count(4), NONE);
        due("9: without a law it is the count", Check.child(x, 0, 11), 90);
        due("9: none again", x.law(NONE), true);
        CountRule none = new CountRule();
        due("9: there is no law", none.law(0), false);
        Check.tell(none, LAW, "y:1");
        due("9: there is one", none.law(0), true);
        due("9: there is no second", none.law(1), false);
    }

    // ---- worth

    /** The tax of a child that counts to 90. */
    private static void tax(String law, int want) {
        CountRule x = Check.county("ck9");
        x.law(Check.tell(x, LAW, law));
        due("worth of " + law, Check.child(x, 0, 11), want);
    }

    private static void sumsStayWithinAMillion() {
        // 999*1001 is a million less one
        tax("y:[999*1001]-1000*1000+5", 4);
        tax("y:[999*1001+1]-1000*1000+5", 5);
        tax("y:[999*1001+2]-1000*1000+5", 5);
        tax("y:[999*1001+9999]-1000*1000+5", 5);
        tax("y:[999*1001-[0-1]]-1000*1000+5", 5);
        tax("y:[999*1001-[0-2]]-1000*1000+5", 5);
        tax("y:[1000*1001]-1000*1000+5", 5);
        tax("y:[9999*9999]-1000*1000+5", 5);
        tax("y:[[0-1000]*[0-1001]]-1000*1000+5", 5);
        tax("y:[0-999*1001]+1000*1000+5", 6);
        tax("y:[0-999*1001-1]+1000*1000+5", 5);
        tax("y:[0-999*1001-2]+1000*1000+5", 5);
        tax("y:[0-999*1001-9999]+1000*1000+5", 5);
        tax("y:[0-999*1001+[0-2]]+1000*1000+5", 5);
        tax("y:[[0-999]*1001]+1000*1000+5", 6);
        tax("y:[[0-1000]*1000]+1000*1000+5", 5);
        tax("y:[[0-1000]*1001]+1000*1000+5", 5);
        tax("y:[[0-9999]*9999]+1000*1000+5", 5);
        tax("y:9999*9999*9999-1000*1000+5", 5);
        tax("y:9999*9999/1000/1000+5", 6);
        tax("y:1000*1000+1000*1000-1000*1000+5", 5);
        tax("y:1000*1000*[0-1]*[1000*1000]+1000*1000+5", 5);
    }

    private static void divisionCutsTowardsZero() {
        tax("y:7/2+10", 13);
        tax("y:[0-7]/2+10", 7);
        tax("y:7/[0-2]+10", 7);
        tax("y:[0-7]/[0-2]+10", 13);
        tax("y:6/2+10", 13);
        tax("y:1/2+10", 10);
        tax("y:[0-1]/2+10", 10);
        tax("y:5/0+10", 10);
        tax("y:[0-5]/0+10", 10);
        tax("y:0/0+10", 10);
        tax("y:5/[k-9]+10", 10);
        tax("y:5/0*3+10", 10);
        tax("y:20-5-3", 12);
        tax("y:20-[5-3]", 18);
        tax("y:40/4/2", 5);
        tax("y:40/[4/2]", 20);
        tax("y:40/4*2", 20);
        tax("y:2*9/4", 4);
        tax("y:2+3*4", 14);
        tax("y:2*3+4", 10);
        tax("y:[2+3]*4", 20);
        tax("y:20-6/2", 17);
        tax("y:0001", 1);
    }

    private static void comparisonsOnBothSides() {
        int[] by = {89, 90, 91};
        int[] less = {0, 0, 1};
        int[] more = {1, 0, 0};
        int[] like = {0, 1, 0};
        for (int i = 0; i < 3; i++) {
            tax("y:c<" + by[i] + "?1", less[i]);
            tax("y:c>" + by[i] + "?1", more[i]);
            tax("y:c=" + by[i] + "?1", like[i]);
            tax("y:" + by[i] + ">c?1", less[i]);
        }
        tax("y:0-1<0?1", 1);
        tax("y:0<0-1?1", 0);
        tax("y:0-1>0?1", 0);
    }

    private static void truths() {
        String[][] allSays = {{"1=2", "1=1"}, {"1<1", "1<2"}, {"1>1", "2>1"}, {"(1=2)", "(1=1)"}, {"!1=1", "!1=2"}};
        for (String[] says : allSays) {
            for (int a = 0; a < 2; a++) {
                tax("y:" + says[a] + "?1", a);
                tax("y:!" + says[a] + "?1", 1 - a);
                tax("y:!!" + says[a] + "?1", a);
                tax("y:!(" + says[a] + ")?1", 1 - a);
                for (int b = 0; b < 2; b++) {
                    truthsOfTwo(says[a], a, says[b], b);
                    truthsOfTwo(says[a], a, allSays[0][b], b);
                    truthsOfThree(says[a], a, allSays[0][b], b, says[0], 0);
                    truthsOfThree(says[a], a, allSays[0][b], b, says[1], 1);
                }
            }
        }
    }

    private static void truthsOfTwo(String first, int a, String second, int b) {
        tax("y:" + first + "&" + second + "?1", a & b);
        tax("y:" + first + "|" + second + "?1", a | b);
        tax("y:!" + first + "&" + second + "?1", 1 - a & b);
        tax("y:!" + first + "|" + second + "?1", 1 - a | b);
        tax("y:" + first + "&!" + second + "?1", a & 1 - b);
        tax("y:" + first + "|!" + second + "?1", a | 1 - b);
        tax("y:!(" + first + "&" + second + ")?1", 1 - (a & b));
        tax("y:!(" + first + "|" + second + ")?1", 1 - (a | b));
    }

    private static void truthsOfThree(String first, int a, String second, int b, String third, int c) {
        tax("y:" + first + "|" + second + "&" + third + "?1", a | b & c);
        tax("y:" + first + "&" + second + "|" + third + "?1", a & b | c);
        tax("y:(" + first + "|" + second + ")&" + third + "?1", (a | b) & c);
        tax("y:" + first + "&(" + second + "|" + third + ")?1", a & (b | c));
    }

    private static void theFirstClauseThatHolds() {
        tax("y:1=2?7", 0);
        tax("y:1=1?7", 7);
        tax("y:1=2?7;y:1=2?8", 0);
        tax("y:1=2?7;y:1=1?8", 8);
        tax("y:1=1?7;y:1=1?8", 7);
        tax("y:1=2?7;y:8;y:9", 8);
        tax("y:7;y:1=1?8", 7);
        tax("y:1=1?0;y:8", 0);
        tax("y:1=1?0-1;y:8", 0);
        tax("y:0-1", 0);
        tax("y:0", 0);
        tax("y:1", 1);
        tax("y:89", 89);
        tax("y:90", 90);
        tax("y:91", 90);
        tax("y:9999", 90);
        CountRule x = Check.county("ck3;c");
        x.law(Check.tell(x, LAW, "y:31"));
        due("held within the count", Check.child(x, 0, 11), 30);
        due("held within a count of 0", Check.child(x, 1, 11), 0);
    }
}
