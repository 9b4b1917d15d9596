import java.math.BigInteger;
import java.util.Arrays;
import java.util.HashSet;

/** The sentences on what is so, on acts and on months that name a boundary: "Terms" 2, promises 6 to 21. */
public final class EdgesOfMonthsTest {
    private static final int NONE = -1;
    private static final int HIDDEN = -1000000;
    private static final int THROWN = Check.THROWN;
    private static final int LAW = 1;
    private static final int[] FAR = {Integer.MIN_VALUE, -1000000, -2, -1};

    private EdgesOfMonthsTest() {
    }

    public static void main(String[] args) {
        countIsTenTimesTheLowestTen();
        wrongIsNotRight();
        whatIsAskedOfWhom();
        whatIsAskedAboutWrongTens();
        whoIsThere();
        eightChildrenAndFourElders();
        whoTries();
        taxAndItsLetters();
        eldersForget();
        lessonsAreAsLongAsSlow();
        oneGrowsOut();
        youngerThanTheRuler();
        withoutAnExaminer();
        theOrderWithinAMonth();
        rulersRuleAndPay();
        monthsAreOneToSixty();
        theLogHasSixty();
        theLogIsUndone();
        feverIsOutOfAHundred();
        feversByDraws();
        feversAreDrawnBelow();
        feversTakeTenSeven();
        fortyActs();
        eachActIsUndone();
        lessonsBegin();
        taughtWrong();
        keptFrom();
        bought();
        Check.close();
    }

    private static void due(String what, long got, long want) {
        Check.due(what, got, want);
    }

    private static void due(String what, boolean got, boolean want) {
        Check.due(what, got, want);
    }

    private static int kid(CountRule x, int child, int what) {
        return Check.child(x, child, what);
    }

    // ---- what is so

    private static void countIsTenTimesTheLowestTen() {
        for (int k = 0; k <= 9; k++) {
            due("count of k" + k, kid(Check.county("ck" + k), 0, 10), 10 * k);
            for (int w = 0; w <= 9; w++) {
                due("count of k" + k + " w" + w, kid(Check.county("ck" + k + "w" + w), 0, 10), 10 * Math.min(k, w));
            }
        }
        CountRule x = Check.county("ck2;rp0");
        x.buy(0, 3);
        x.buy(0, 8);
        due("a ten above the lowest does not count", kid(x, 0, 10), 20);
        x.buy(0, 2);
        due("now two more count", kid(x, 0, 10), 40);
        for (int ten = 4; ten < 8; ten++) {
            x.buy(0, ten);
        }
        due("90 without one", kid(x, 0, 10), 90);
        x.wrong(0, 0);
        due("0 without the first", kid(x, 0, 10), 0);
    }

    private static void wrongIsNotRight() {
        for (int ten = 0; ten < 9; ten++) {
            CountRule known = Check.county("ck9w" + ten);
            due("wrong and known", kid(known, 0, 1), 511);
            due("wrong and known is not right", known.party(0), 511 - (1 << ten));
            due("so it can be taught", known.teach(0, ten), 1);
            CountRule unknown = Check.county("ck0w" + ten + ";rp0");
            due("wrong and not known", kid(unknown, 0, 2), 1 << ten);
            due("wrong and not known is not right", unknown.party(0), 0);
            due("so it can be bought", unknown.buy(0, ten), 0);
            due("and is right", unknown.party(0), 1 << ten);
            due("and not wrong", kid(unknown, 0, 2), 0);
            CountRule plain = Check.county("ck9");
            due("known and not wrong is right", plain.party(0), 511);
            due("so it cannot be taught", plain.teach(0, ten), NONE);
            due("not known and not wrong is not right", Check.county("ck" + ten).party(0), (1 << ten) - 1);
        }
        due("w9 is none", kid(Check.county("ck9w9"), 0, 2), 0);
        due("w8 is the last ten", kid(Check.county("ck9w8"), 0, 2), 256);
    }

    private static int asked(int u, int elderKnows, int step) {
        int bits = 0;
        for (int ten = 0; ten < u && ten < elderKnows; ten++) {
            bits |= ten % step == 0 ? 1 << ten : 0;
        }
        return bits;
    }

    private static void whatIsAskedOfWhom() {
        for (int u = 1; u <= 9; u++) {
            for (int minds = 0; minds <= 9; minds++) {
                for (int y = 1; y <= 3; y++) {
                    for (int k = 0; k <= 9; k++) {
                        CountRule x = Check.county("ck" + k + "y" + y + ";ek" + minds + ";ru" + u);
                        int slips = asked(u, minds, y) & ~((1 << k) - 1);
                        String what = "below u" + u + ", known by k" + minds + ", by y" + y + ", with k" + k;
                        due("12: " + what, x.slips(0, 0), slips);
                        due("11: " + what, x.passes(0, 0), slips == 0 ? 1 : 0);
                        due("37: " + what, x.before(0), slips == 0 ? 1 : 0);
                    }
                }
            }
        }
    }

    private static void whatIsAskedAboutWrongTens() {
        for (int u = 1; u <= 9; u++) {
            for (int y = 1; y <= 3; y++) {
                for (int w = 0; w < 9; w++) {
                    CountRule x = Check.county("ck9w" + w + "y" + y + ";e;ru" + u);
                    int slips = asked(u, 9, y) & 1 << w;
                    due("12: wrong ten " + w + " by " + y + " below " + u, x.slips(0, 0), slips);
                    due("11: wrong ten " + w + " by " + y + " below " + u, x.passes(0, 0), slips == 0 ? 1 : 0);
                }
            }
        }
    }

    private static void whoIsThere() {
        for (int size = 1; size <= 8; size++) {
            CountRule x = Check.county("c" + ";c".repeat(size - 1) + ";e".repeat(Math.min(4, size)));
            int elders = Math.min(4, size);
            for (int child = 0; child < size; child++) {
                due("6: child " + child + " of " + size, kid(x, child, 0), 40);
                due("11: child " + child + " of " + size, x.passes(child, 0), 0);
            }
            due("6: no child " + size, kid(x, size, 0), THROWN);
            due("11: no child " + size, x.passes(size, 0), NONE);
            due("12: no child " + size, x.slips(size, 0), NONE);
            for (int elder = 0; elder < elders; elder++) {
                due("7: elder " + elder + " of " + elders, x.elder(elder, 0), 70);
                due("11: elder " + elder + " of " + elders, x.passes(0, elder), 0);
                due("12: elder " + elder + " of " + elders, x.slips(0, elder), 511);
            }
            due("7: no elder " + elders, x.elder(elders, 0), NONE);
            due("11: no elder " + elders, x.passes(0, elders), NONE);
            due("12: no elder " + elders, x.slips(0, elders), NONE);
        }
        CountRule x = Check.county("c;e");
        for (int far : FAR) {
            due("6: no child " + far, kid(x, far, 0), THROWN);
            due("6: no what " + far, kid(x, 0, far), THROWN);
            due("7: no elder " + far, x.elder(far, 0), NONE);
            due("7: no what " + far, x.elder(0, far), NONE);
            due("8: no what " + far, x.rule(far), NONE);
            due("11: no child " + far, x.passes(far, 0), NONE);
            due("11: no elder " + far, x.passes(0, far), NONE);
            due("12: no child " + far, x.slips(far, 0), NONE);
            due("12: no elder " + far, x.slips(0, far), NONE);
        }
        for (int what = 0; what < 12; what++) {
            due("6: what " + what, kid(x, 0, what) != THROWN, true);
        }
        due("6: no what 12", kid(x, 0, 12), THROWN);
        due("6: far beyond", kid(x, 0, Integer.MAX_VALUE), THROWN);
        due("6: no such child, far beyond", kid(x, Integer.MAX_VALUE, 0), THROWN);
        due("7: no what 3", x.elder(0, 3), NONE);
        due("7: far beyond", x.elder(Integer.MAX_VALUE, Integer.MAX_VALUE), NONE);
        due("8: no what 3", x.rule(3), NONE);
        due("8: far beyond", x.rule(Integer.MAX_VALUE), NONE);
        for (int what = 0; what < 3; what++) {
            due("7: what " + what, x.elder(0, what) >= 0, true);
            due("8: what " + what, x.rule(what) >= 1, true);
            due("8: no county", new CountRule().rule(what), NONE);
            due("7: no county", new CountRule().elder(0, what), NONE);
        }
    }

    /** As many as there can be, each unlike the others, so that nothing of one is taken for another's. */
    private static void eightChildrenAndFourElders() {
        StringBuilder town = new StringBuilder("rg80u8p3");
        for (int i = 0; i < 8; i++) {
            town.append(";ca").append(40 - i).append("k").append(i + 1).append("w").append((i + 5) % 9).append("n").append(i % 5);
            town.append("s").append(9 - i).append("y").append(1 + i % 3);
        }
        for (int i = 0; i < 4; i++) {
            town.append(";ea").append(60 + i).append("f").append(4 - i).append("k").append(6 + i);
        }
        CountRule x = Check.county(town.toString());
        for (int i = 0; i < 8; i++) {
            due("16: kept " + i, x.keep(i, i, true), 2 * i + 1);
            due("14: taught " + i, x.teach(i, (i + 5) % 9), 2 * i + 2);
        }
        // the oldest elder asks the last child tens 0 2 4 6, all of which it has right
        for (int month = 0; month <= 5; month++) {
            for (int i = 0; i < 8; i++) {
                childOfEight(x, i, month);
            }
            for (int i = 0; i < 4; i++) {
                int[] told = {60 + i, 4 - i, (1 << 6 + i - month / (4 - i)) - 1};
                for (int what = 0; what < 3; what++) {
                    due("7: elder " + i + ", " + what + " in month " + month, x.elder(i, what), told[what]);
                }
            }
            due("8: the rule in month " + month, x.rule(0) * 100 + x.rule(1) * 10 + x.rule(2), 8083);
            due("48: the month", x.count(5), month);
            due("48: the ruler in month " + month, x.count(6), month == 0 ? NONE : 7);
            due("48: the treasury in month " + month, x.count(7), month == 0 ? 0 : 30 + 80 * (month - 1));
            due("48: acts", x.count(11), 16 + month);
            x.months(1);
        }
    }

    private static void childOfEight(CountRule x, int i, int month) {
        int slow = 9 - i;
        int ten = (i + 5) % 9;
        boolean had = month >= slow;
        int known = (2 << i) - 1 | (had ? 1 << ten : 0);
        int[] told = {40 - i + month, known, had ? 0 : 1 << ten, i % 5, slow, 1 + i % 3, had ? NONE : ten,
            had ? 0 : slow - month, 1 << i, i == 7 ? month : 0};
        for (int what = 0; what < told.length; what++) {
            due("6: child " + i + ", " + what + " in month " + month, kid(x, i, what), told[what]);
        }
    }

    private static void whoTries() {
        String[] towns = {"c", "c;e", "c;ek0", "c;ek1;ru1", "c;ea0k1", "c;ea0;ea0", "c;ea98;ea99", "c;ea99;ea98",
            "c;ea99;ea98;ea99", "c;ea99k0;ea98k1", "c;ea99k0;ea98k0", "c;ea1;ea2;ea3;ea4", "c;ea4;ea3;ea2;ea1",
            "c;ea9;ea9;ea9;ea10", "c;ea99k0;ea99k0;ea99k0;ea0k1"};
        int[] triers = {NONE, 0, NONE, 0, 0, 0, 1, 0, 0, 1, NONE, 3, 0, 3, 3};
        for (int i = 0; i < towns.length; i++) {
            due("13: " + towns[i], Check.county(towns[i]).examiner(), triers[i]);
        }
        due("13: no county", new CountRule().examiner(), NONE);
        CountRule x = Check.county("c;ea80f1k3;ea70f2k9");
        for (int month = 1; month <= 18; month++) {
            x.months(1);
            due("13: month " + month, x.examiner(), month < 3 ? 0 : month < 18 ? 1 : NONE);
        }
    }

    private static void tax(CountRule x, int child, String law, int want) {
        x.law(Check.tell(x, LAW, law));
        due("tax by " + law, kid(x, child, 11), want);
        x.law(NONE);
    }

    private static void taxAndItsLetters() {
        due("none at first: its count", kid(Check.county("ck7"), 0, 11), 70);
        due("none at first: a count of 0", kid(Check.county("c"), 0, 11), 0);
        CountRule x = Check.county("ca98k9w8n4;ca0;e");
        tax(x, 0, "y:c", 80);
        tax(x, 0, "y:a-20", 78);
        tax(x, 0, "y:k", 8);
        tax(x, 0, "y:n", 4);
        x = Check.county("ca98k9w8n4;ca0;e");
        tax(x, 0, "y:m", 0);
        tax(x, 0, "y:w", 1);
        x.months(60);
        tax(x, 0, "y:m", 60);
        tax(x, 0, "y:a-100", 58);
        x = Check.county("ck9;ck0;rp0");
        x.wrong(0, 8);
        x.wrong(0, 7);
        x.wrong(1, 3);
        tax(x, 0, "y:w", 2);
        tax(x, 0, "y:k", 7);
        tax(x, 1, "y:w", 0);
        x.buy(1, 0);
        x.buy(1, 5);
        tax(x, 1, "y:w*3+k", 5);
        x = Check.county("ck9;ck1;rp0");
        for (int ten = 1; ten < 9; ten++) {
            x.wrong(0, ten);
            x.wrong(1, ten);
        }
        tax(x, 0, "y:w", 8);
        tax(x, 0, "y:k", 1);
        tax(x, 1, "y:w", 8);
        tax(x, 1, "y:w+k", 9);
    }

    // ---- a month

    private static void eldersForget() {
        for (int f = 0; f <= 9; f++) {
            CountRule x = Check.county("c;ef" + f + "k9;ef" + f + "k1;ef" + f + "k0");
            for (int month = 1; month <= 90; month++) {
                x.months(1);
                int less = f == 0 ? 0 : month / f;
                due("7: f" + f + " in month " + month, x.elder(0, 2), (1 << Math.max(0, 9 - less)) - 1);
                due("7: one ten, f" + f + " in month " + month, x.elder(1, 2), less == 0 ? 1 : 0);
                due("7: no ten, f" + f + " in month " + month, x.elder(2, 2), 0);
            }
            due("7: each how many months it forgets stays", x.elder(0, 1), f);
            due("7: its age stays", x.elder(0, 0), 70);
        }
    }

    private static void lessonsAreAsLongAsSlow() {
        for (int slow = 1; slow <= 9; slow++) {
            for (int begins = 0; begins <= 2; begins++) {
                CountRule x = Check.county("ck2w5s" + slow);
                if (begins > 0) {
                    x.months(begins);
                }
                x.teach(0, 5);
                for (int month = 0; month <= slow + 1; month++) {
                    boolean had = month >= slow;
                    String what = "slow " + slow + ", month " + month;
                    due("6: ten of the lesson, " + what, kid(x, 0, 6), had ? NONE : 5);
                    due("6: months to go, " + what, kid(x, 0, 7), had ? 0 : slow - month);
                    due("6: known, " + what, kid(x, 0, 1), had ? 3 | 32 : 3);
                    due("6: wrong, " + what, kid(x, 0, 2), had ? 0 : 32);
                    x.months(1);
                }
            }
        }
    }

    private static void oneGrowsOut() {
        for (int g : new int[] {1, 2, 3, 41, 42, 50, 98, 99}) {
            for (int age = Math.max(0, g - 4); age <= Math.min(99, g + 1); age++) {
                CountRule x = Check.county("ca" + age + "k9;e;rg" + g);
                for (int month = 1; month <= 6; month++) {
                    x.months(1);
                    boolean below = age + month < g;
                    String what = "g" + g + ", age " + (age + month);
                    due("rules below g: " + what, x.count(6), below ? 0 : NONE);
                    due("logged: " + what, x.log(0, 0), below ? 0 : NONE);
                    due("paid: " + what, x.log(0, 2), below ? 90 : 0);
                    due("length of the law: " + what, x.count(9), below ? 90 : 0);
                    due("months ruled: " + what, kid(x, 0, 9), Math.max(0, Math.min(month, g - 1 - age)));
                    due("treasury: " + what, x.count(7), 90 * Math.max(0, Math.min(month, g - 1 - age)));
                    due("older: " + what, kid(x, 0, 0), age + month);
                }
            }
        }
        CountRule x = Check.county("ca97k9;ca98k9;ca99k9;e;rg99");
        x.months(1);
        due("98 is below 99", x.count(6), 0);
        x.months(60);
        due("children get older than 99", kid(x, 2, 0), 160);
    }

    private static void youngerThanTheRuler() {
        for (int age = 28; age <= 32; age++) {
            CountRule x = Check.county("ca" + age + "k8s1;ca30k9;ca" + age + "k8s1;e");
            x.months(1);
            due("the one who passes", x.count(6), 1);
            x.teach(2, 8);
            x.months(1);
            due("less age than the ruler: " + age, x.count(6), age < 30 ? 2 : 1);
            x.teach(0, 8);
            x.months(1);
            due("like age is not less", x.count(6), age < 30 ? 2 : 1);
            x = Check.county("ca" + age + "k9;ca30k9;ca" + age + "k9;e");
            x.months(1);
            due("the youngest, of several the lowest: " + age, x.count(6), age <= 30 ? 0 : 1);
        }
        CountRule x = Check.county("ca30k9;ca20k9;ca10k9;ca10k9;ca0k8;e");
        x.months(1);
        due("the youngest who passes", x.count(6), 2);
        x.wrong(2, 0);
        x.months(1);
        due("a ruler need not pass", x.count(6), 2);
        due("and its like does not follow it", x.count(9), 0);
    }

    private static void withoutAnExaminer() {
        CountRule x = Check.county("ca30k9;ca20k9");
        x.months(5);
        due("nobody is tried without an elder", x.count(6), NONE);
        due("no examiner in the log", x.log(0, 1), NONE);
        due("nothing is paid", x.log(0, 2), 0);
        x = Check.county("ca30k1;ca20s2;ef2k1");
        x.months(1);
        due("an examiner in the log", x.log(0, 1), 0);
        due("the one who passes", x.count(6), 0);
        x.teach(1, 0);
        x.months(2);
        due("no examiner any more", x.log(0, 1), NONE);
        due("so a younger one does not follow", x.count(6), 0);
        due("though it can count", kid(x, 1, 10), 10);
        x.months(60);
        due("until the ruler grows out", x.count(6), NONE);
        due("at 90", kid(x, 0, 9), 59);
    }

    private static void theOrderWithinAMonth() {
        CountRule x = Check.county("ca30k2;ef2k3");
        x.months(1);
        due("not before the elder forgets", x.count(6), NONE);
        x.months(1);
        due("an elder forgets ahead of the trial", x.count(6), 0);
        x = Check.county("ca30k2s2;ek3");
        x.teach(0, 2);
        x.months(1);
        due("not before the lesson ends", x.count(6), NONE);
        x.months(1);
        due("a lesson ends ahead of the trial", x.count(6), 0);
        due("and ahead of the tax", x.count(7), 30);
        x = Check.county("ca39k9;ca20k8s1;e;rg41");
        x.months(1);
        x.teach(1, 8);
        x.months(1);
        due("as one grows out another follows in that month", x.count(6), 1);
        x = Check.county("ca39k9;ca38k8s1;e;rg41");
        x.teach(1, 8);
        x.months(1);
        due("the younger", x.count(6), 1);
        x = Check.county("ca5k9;e");
        x.law(Check.tell(x, LAW, "y:a*10+m"));
        x.months(1);
        due("the tax is by the month and the age that are new", x.count(7), 61);
    }

    private static void rulersRuleAndPay() {
        CountRule x = Check.county("ca30k9;ca20k8s3;e");
        x.teach(1, 8);
        for (int month = 1; month <= 6; month++) {
            due("18: the month", x.months(1), month);
            due("5: its number", x.count(5), month);
            due("the one ruled", kid(x, 0, 9), Math.min(month, 2));
            due("the other ruled", kid(x, 1, 9), Math.max(0, month - 2));
            due("treasury", x.count(7), 90 * month);
        }
    }

    private static void monthsAreOneToSixty() {
        for (int n : new int[] {Integer.MIN_VALUE, -60, -1, 0, 1, 2, 59, 60, 61, 62, Integer.MAX_VALUE}) {
            boolean may = n >= 1 && n <= 60;
            CountRule x = Check.county("ca0k9;e");
            x.months(3);
            due("18: months " + n, x.months(n), may ? 3 + n : NONE);
            due("18: the month then", x.count(5), may ? 3 + n : 3);
            due("18: acts then", x.count(11), may ? Math.min(40, 3 + n) : 3);
            due("18: treasury then", x.count(7), 90 * x.count(5));
            due("18: age then", kid(x, 0, 0), x.count(5));
            x = Check.county("ca0k9;e");
            x.months(3);
            due("19: fevers " + n, x.fevers(n, 1L), may ? 3 + n : NONE);
            due("19: the month then", x.count(5), may ? 3 + n : 3);
            due("19: acts then", x.count(11), may ? Math.min(40, 3 + n) : 3);
            due("18: no county", new CountRule().months(n), NONE);
            due("19: no county", new CountRule().fevers(n, 1L), NONE);
        }
    }

    // ---- the log

    /** The child pays the month's number, up to its count of 90, until it grows out at 99. */
    private static CountRule payingByMonth(int months) {
        CountRule x = Check.county("ca0k9;e;rg99");
        x.law(Check.tell(x, LAW, "y:m"));
        for (int left = months; left > 0; left -= 30) {
            x.months(Math.min(30, left));
        }
        return x;
    }

    private static int paidIn(int month) {
        return month < 99 ? Math.min(90, month) : 0;
    }

    private static void logged(String why, CountRule x, int months) {
        int length = Math.min(60, months);
        due(why + ": how long the log is behind " + months, x.count(10), length);
        for (int i = 0; i < length; i++) {
            int month = months - i;
            due(why + ": paid in month " + month + " of " + months, x.log(i, 2), paidIn(month));
            due(why + ": ruler in month " + month + " of " + months, x.log(i, 0), month < 99 ? 0 : NONE);
            due(why + ": examiner in month " + month + " of " + months, x.log(i, 1), 0);
        }
        for (int what = 0; what < 3; what++) {
            due(why + ": none older than " + length, x.log(length, what), HIDDEN);
        }
    }

    private static void theLogHasSixty() {
        for (int months : new int[] {0, 1, 2, 58, 59, 60, 61, 62, 90, 98, 99, 100, 101, 102, 120, 160, 200, 230}) {
            CountRule x = payingByMonth(months);
            logged("21", x, months);
            int length = Math.min(60, months);
            for (int i : new int[] {Integer.MIN_VALUE, -1, length, length + 1, 60, 61, 100, Integer.MAX_VALUE}) {
                for (int what = 0; what < 3; what++) {
                    due("21: no month " + i + " of " + months, x.log(i, what), HIDDEN);
                }
            }
            for (int what : new int[] {Integer.MIN_VALUE, -1, 3, 4, Integer.MAX_VALUE}) {
                due("21: no what " + what, x.log(0, what), HIDDEN);
            }
        }
        due("21: no county", new CountRule().log(0, 0), HIDDEN);
    }

    private static void theLogIsUndone() {
        for (int months : new int[] {41, 60, 61, 90, 100, 101, 130, 200, 230}) {
            CountRule x = payingByMonth(months);
            for (int undone = 1; undone <= 40; undone++) {
                due("20: undone " + undone, x.undo(), 40 - undone);
                logged("20: undone " + undone, x, months - undone);
            }
            due("20: forty at most", x.undo(), NONE);
            due("20: the month", x.count(5), months - 40);
            x.months(40);
            logged("20: the same months again", x, months);
            for (int undone = 1; undone <= 40; undone++) {
                x.undo();
            }
            logged("20: undone again", x, months - 40);
        }
    }

    // ---- fevers

    private static void feverIsOutOfAHundred() {
        CountRule x = new CountRule();
        due("8: 0 at first", x.count(8), 0);
        due("10: it is so at first", x.fever(0), false);
        for (int v : new int[] {1, 2, 50, 98, 99, 0}) {
            due("10: fever " + v, x.fever(v), true);
            due("10: it is told", x.count(8), v);
            for (int out : new int[] {Integer.MIN_VALUE, -2, -1, 100, 101, Integer.MAX_VALUE, v}) {
                due("10: out of bounds or so: " + out, x.fever(out), false);
                due("10: it stays", x.count(8), v);
            }
        }
    }

    private static int[] draws(long seed, int n) {
        BigInteger round = BigInteger.ONE.shiftLeft(64);
        BigInteger x = BigInteger.valueOf(seed).mod(round);
        int[] draws = new int[n];
        for (int i = 0; i < n; i++) {
            x = x.multiply(new BigInteger("6364136223846793005")).add(new BigInteger("1442695040888963407")).mod(round);
            draws[i] = x.shiftRight(33).mod(BigInteger.valueOf(100)).intValue();
        }
        return draws;
    }

    private static void feversByDraws() {
        long[] seeds = {0L, 1L, -1L, 12345L, Long.MAX_VALUE, Long.MIN_VALUE, -987654321987654321L, 1L << 33, 1L << 63 | 1};
        for (long seed : seeds) {
            for (int fever : new int[] {0, 1, 5, 20, 50, 99}) {
                for (int n : new int[] {1, 2, 5}) {
                    CountRule x = Check.county("ck9;ck3;ck9y3;ck8;e");
                    if (fever > 0) {
                        x.fever(fever);
                    }
                    x.fevers(n, seed);
                    int[] draws = draws(seed, 4 * n);
                    int[] knows = {511, 7, 511, 255};
                    for (int i = 0; i < draws.length; i++) {
                        knows[i % 4] &= draws[i] < fever ? 511 - 128 : 511;
                    }
                    for (int child = 0; child < 4; child++) {
                        due("19: seed " + seed + ", fever " + fever + ", months " + n, kid(x, child, 1), knows[child]);
                    }
                }
            }
        }
    }

    private static long seedThatDraws(int draw) {
        for (long seed = 0; seed < 100000; seed++) {
            if (draws(seed, 1)[0] == draw) {
                return seed;
            }
        }
        throw new IllegalStateException("no such seed");
    }

    private static void feversAreDrawnBelow() {
        for (int draw : new int[] {0, 1, 49, 97, 98, 99}) {
            long seed = seedThatDraws(draw);
            for (int fever = Math.max(0, draw - 1); fever <= Math.min(99, draw + 2); fever++) {
                CountRule x = Check.county("ck9;e");
                x.fever(fever);
                x.fevers(1, seed);
                due("19: a draw of " + draw + " below " + fever, kid(x, 0, 1), draw < fever ? 511 - 128 : 511);
            }
        }
        long seed = seedThatDraws(3);
        CountRule x = Check.county("ck9;e");
        x.fever(4);
        x.months(60);
        due("18: by hand no fever", kid(x, 0, 1), 511);
        x.undo();
        x.fevers(1, seed);
        due("19: each call begins at its seed", kid(x, 0, 1), 511 - 128);
        x.undo();
        x.fevers(1, seed);
        due("19: and so again", kid(x, 0, 1), 511 - 128);
    }

    private static void feversTakeTenSeven() {
        long seed = seedThatDraws(0);
        CountRule x = Check.county("ca30k9w7;e");
        x.fever(1);
        x.fevers(1, seed);
        due("19: ten 7 is not known", kid(x, 0, 1), 511 - 128);
        due("19: and as wrong as it was", kid(x, 0, 2), 128);
        x = Check.county("ca30k7s1;ru8;ek8");
        x.fever(1);
        x.teach(0, 7);
        x.fevers(1, seed);
        due("19: behind lessons", kid(x, 0, 1), 127);
        due("19: the lesson is over", kid(x, 0, 6), NONE);
        due("19: ahead of the trial", x.count(6), NONE);
        x = Check.county("ca30k9;e");
        x.fever(1);
        x.months(1);
        x.fevers(1, seed);
        due("19: a ruler in fever rules on", x.count(6), 0);
        due("19: and pays less", x.log(0, 2), 70);
        due("19: elders know ten 7 still", x.elder(0, 2), 511);
        x = Check.county("ca30k7s3;ek9");
        x.fever(1);
        x.teach(0, 7);
        x.fevers(1, seed);
        due("19: a lesson of ten 7 goes on", kid(x, 0, 7), 2);
    }

    // ---- acts

    private static void fortyActs() {
        CountRule x = Check.county("c;e");
        for (int act = 1; act <= 90; act++) {
            due("16: act " + act, x.keep(0, 3, act % 2 == 1), Math.min(40, act));
            due("48: acts", x.count(11), Math.min(40, act));
        }
        for (int undone = 1; undone <= 40; undone++) {
            due("20: undone " + undone, x.undo(), 40 - undone);
            due("20: kept then", kid(x, 0, 8), (90 - undone) % 2 == 1 ? 8 : 0);
        }
        due("20: none is left", x.undo(), NONE);
        due("20: and nothing changes", kid(x, 0, 8), 0);
        for (int before : new int[] {38, 39, 40, 41}) {
            for (int kind = 0; kind < 5; kind++) {
                x = Check.county("ca0k9;c;e;rp0");
                x.months(before);
                int acts = Math.min(40, before + 1);
                due("acts by kind " + kind + " behind " + before, actOf(x, kind), kind == 3 ? 90 * before : acts);
                due("48: acts by kind " + kind + " behind " + before, x.count(11), acts);
            }
        }
        due("20: none at first", new CountRule().undo(), NONE);
        due("20: none at first of a county", Check.county("c").undo(), NONE);
    }

    private static int actOf(CountRule x, int kind) {
        switch (kind) {
            case 0: return x.teach(1, 0);
            case 1: return x.wrong(1, 0);
            case 2: return x.keep(1, 0, true);
            case 3: return x.buy(1, 0);
            default: return x.months(1) >= 0 ? x.count(11) : NONE;
        }
    }

    private static void eachActIsUndone() {
        CountRule x = Check.county("ca30k9s2;ca20k1s3;ef2k9;rp7");
        x.months(1);
        String[] states = new String[8];
        states[0] = Face.told(x);
        x.teach(1, 4);
        states[1] = Face.told(x);
        x.wrong(1, 4);
        states[2] = Face.told(x);
        x.keep(1, 4, true);
        states[3] = Face.told(x);
        x.buy(1, 4);
        states[4] = Face.told(x);
        x.keep(1, 4, false);
        states[5] = Face.told(x);
        x.months(1);
        states[6] = Face.told(x);
        x.fever(99);
        x.undo();
        x.fever(0);
        due("20: a month is undone", Face.told(x).equals(states[5]), true);
        x.months(1);
        x.fever(99);
        x.fevers(1, 5L);
        states[7] = Face.told(x);
        due("each act changes what is told", new HashSet<>(Arrays.asList(states)).size(), 8);
        x.undo();
        x.fever(0);
        for (int act = 6; act >= 0; act--) {
            due("20: as it was ahead of act " + (act + 1), Face.told(x).equals(states[act]), true);
            due("20: so many are left", x.undo(), act);
        }
        due("20: the first month is undone, too", x.count(5), 0);
        due("20: none is left", x.undo(), NONE);
    }

    private static void lessonsBegin() {
        CountRule x = Check.county("ck3w1s4;ck9;c;e");
        int[] tens = {Integer.MIN_VALUE, -1, 9, 10, Integer.MAX_VALUE};
        for (int ten : tens) {
            due("14: no ten " + ten, x.teach(0, ten), NONE);
            due("15: no ten " + ten, x.wrong(0, ten), NONE);
            due("16: no ten " + ten, x.keep(0, ten, true), NONE);
            due("16: no ten " + ten, x.keep(0, ten, false), NONE);
            due("17: no ten " + ten, x.buy(0, ten), NONE);
        }
        for (int child : new int[] {Integer.MIN_VALUE, -1, 3, 4, 8, Integer.MAX_VALUE}) {
            due("14: no child " + child, x.teach(child, 5), NONE);
            due("15: no child " + child, x.wrong(child, 5), NONE);
            due("16: no child " + child, x.keep(child, 5, true), NONE);
            due("17: no child " + child, x.buy(child, 5), NONE);
        }
        due("nothing was done", x.count(11), 0);
        for (int ten = 0; ten < 9; ten++) {
            due("14: that ten is right", x.teach(1, ten), NONE);
            due("14: not right: " + ten, x.teach(2, ten), 1);
            due("14: it has one, of that ten", x.teach(2, ten), NONE);
            due("14: it has one, of another", x.teach(2, (ten + 1) % 9), NONE);
            due("14: its ten", kid(x, 2, 6), ten);
            due("14: as slow as it is", kid(x, 2, 7), 2);
            x.undo();
            x.keep(2, ten, true);
            due("14: kept from it", x.teach(2, ten), NONE);
            due("14: not from another", x.teach(2, (ten + 1) % 9), 2);
            x.undo();
            x.undo();
        }
        due("14: right ten 0", x.teach(0, 0), NONE);
        due("14: wrong ten 1 is not right", x.teach(0, 1), 1);
        x.undo();
        due("14: right ten 2", x.teach(0, 2), NONE);
        due("14: ten 3 is not known", x.teach(0, 3), 1);
        due("14: no county", new CountRule().teach(0, 0), NONE);
        x.months(4);
        due("14: without one again", x.teach(0, 4), 6);
    }

    private static void taughtWrong() {
        CountRule x = Check.county("ck4s3;c");
        for (int ten = 0; ten < 9; ten++) {
            due("15: wrong " + ten, x.wrong(0, ten), 2 * ten + 1);
            due("15: it is wrong " + ten, x.wrong(0, ten), NONE);
            due("15: at once", kid(x, 0, 2), (2 << ten) - 1);
            due("15: what it knows is as it was", kid(x, 0, 1), 15);
            due("15: of the other, too", x.wrong(1, ten), 2 * ten + 2);
        }
        due("15: refused ones are no acts", x.count(11), 18);
        due("15: no county", new CountRule().wrong(0, 0), NONE);
        x = Check.county("ck4s1");
        x.wrong(0, 2);
        x.teach(0, 2);
        x.months(1);
        due("15: right by a lesson", kid(x, 0, 2), 0);
        due("15: wrong once more", x.wrong(0, 2), 4);
        x = Check.county("ck4s2");
        x.keep(0, 6, true);
        due("15: one that is kept from it is taught wrong", x.wrong(0, 6), 2);
        x.teach(0, 5);
        x.wrong(0, 5);
        due("15: a lesson of it goes on", kid(x, 0, 6), 5);
        x.months(2);
        due("15: and makes it right", kid(x, 0, 2), 64);
    }

    private static void keptFrom() {
        CountRule x = Check.county("cs5;cs5");
        for (int ten = 0; ten < 9; ten++) {
            due("16: not kept is so", x.keep(0, ten, false), NONE);
            due("16: kept", x.keep(0, ten, true), ten + 1);
            due("16: kept is so", x.keep(0, ten, true), NONE);
            due("16: bits", kid(x, 0, 8), (2 << ten) - 1);
        }
        due("16: not the other", kid(x, 1, 8), 0);
        for (int ten = 0; ten < 9; ten++) {
            due("16: no more", x.keep(0, ten, false), ten + 10);
            due("16: no more is so", x.keep(0, ten, false), NONE);
            due("16: bits", kid(x, 0, 8), 512 - (2 << ten));
        }
        for (int ten = 0; ten < 9; ten++) {
            x = Check.county("cs5;cs5");
            x.teach(0, 4);
            x.teach(1, 4);
            x.months(1);
            x.keep(0, ten, true);
            due("16: a lesson of it ends", kid(x, 0, 6), ten == 4 ? NONE : 4);
            due("16: months to go", kid(x, 0, 7), ten == 4 ? 0 : 4);
            due("16: another's lesson goes on", kid(x, 1, 7), 4);
            x.keep(0, ten, false);
            due("16: no lesson comes again", kid(x, 0, 6), ten == 4 ? NONE : 4);
        }
        x = Check.county("ck9");
        due("16: from one that is right", x.keep(0, 3, true), 1);
        due("16: which stays right", kid(x, 0, 10), 90);
        due("16: no county", new CountRule().keep(0, 0, true), NONE);
        due("16: no county", new CountRule().keep(0, 0, false), NONE);
    }

    private static void bought() {
        for (int p = 0; p <= 9; p++) {
            for (int treasury = Math.max(0, p - 1); treasury <= p + 1; treasury++) {
                CountRule x = Check.county("ck2w1;c;ek1;rp" + p);
                x.law(Check.tell(x, LAW, "y:" + treasury));
                x.months(1);
                boolean may = treasury >= p;
                String what = "17: p" + p + " of " + treasury;
                due(what + " are there", x.count(7), treasury);
                due(what, x.buy(1, 7), may ? treasury - p : NONE);
                due(what + " are left", x.count(7), may ? treasury - p : treasury);
                due(what + ", known", kid(x, 1, 1), may ? 128 : 0);
                due(what + ", acts", x.count(11), may ? 2 : 1);
                due(what + ", that ten is right", x.buy(0, 0), NONE);
                due(what + ", nothing is paid for it", x.count(7), may ? treasury - p : treasury);
            }
        }
        CountRule x = Check.county("ck2w1s3;rp0");
        due("17: a wrong one", x.buy(0, 1), 0);
        due("17: is right at once", kid(x, 0, 10), 20);
        x.teach(0, 4);
        x.buy(0, 4);
        due("17: a lesson of it goes on", kid(x, 0, 7), 3);
        x.keep(0, 5, true);
        due("17: one it is kept from", x.buy(0, 5), 0);
        due("17: it is kept from it still", kid(x, 0, 8), 32);
        due("17: no county", new CountRule().buy(0, 0), NONE);
    }
}
