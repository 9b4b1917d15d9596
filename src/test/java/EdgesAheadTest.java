import java.util.ArrayList;
import java.util.List;

/** The sentences on what is ahead and what the county tells that name a boundary: "Terms" 3, promises 22 to 45. */
public final class EdgesAheadTest {
    private static final int NONE = -1;
    private static final int HIDDEN = -1000000;
    private static final int LAW = 1;
    private static final int[] NO_CHILD_OF_THREE = {Integer.MIN_VALUE, -2, -1, 3, 4, 8, Integer.MAX_VALUE};
    private static final int[] NO_NURSERY = {Integer.MIN_VALUE, -2, -1, 5, 6, Integer.MAX_VALUE};
    private static final int[] NOT_OF_TWO = {Integer.MIN_VALUE, -2, -1, 2, 3, Integer.MAX_VALUE};
    /** Counties in which much is open: who passes, who grows out, who learns, who forgets. */
    private static final String[] TOWNS = {
        "ca30k3n0s2;ca20k2n1s1;ca25k3n1w1;ca40k4n2y2;ca88k9n3;ea80f5k4;ea70k2;rg60u4p2",
        "ca30k9n1;ca30k9n2;ca29k8n2s3;ca31k8n1s1;e;rp3",
        "ca10k1n0y3;ca12k4n4y2;ca11k7n4w6y3;ca13k9n0;ca13k5n3;ca9k0n0;ca50k9n1;ca51k9n1;ea99f3;ea98k7;ea98k4;ea9f1k1;ru7p0",
        "ca80k9n0;ca79k9n1w0;e;rg82u1",
        "ca5k2;ca6k3;ca7k4;ea60f1k9;rg9",
        "c;ek0",
        "ck9;c",
    };

    private EdgesAheadTest() {
    }

    public static void main(String[] args) {
        aheadIsWhatWillBe();
        reignIsWhatWillBe();
        aheadAndReignAreBounded();
        rowsOfNoneToThree();
        rowsLeaveOut();
        rowsBeginOneBehindAnother();
        planIsBounded();
        keepersOfNoneOrMore();
        keepersAreBounded();
        plumsForEachTen();
        peaceByAge();
        peaceByPlums();
        peaceIsBounded();
        duelOfTwelveMonths();
        duelTeachesTheLowest();
        duelIsBounded();
        restsByTheirWords();
        restsAreBounded();
        teachersByTheirWords();
        spansByTheirWords();
        spansAreBounded();
        chainsByTheirWords();
        chainsOfOneToEight();
        threesByTheirWords();
        partiesOfNurseries();
        heirs();
        lateWithinSixty();
        withoutByItsWords();
        spoilByItsWords();
        soonBySlow();
        feveredByTenSeven();
        youngestByAge();
        richestIsFirst();
        rivalsAreYounger();
        forgottenBelowU();
        Check.close();
    }

    private static void due(String what, long got, long want) {
        Check.due(what, got, want);
    }

    private static int kid(CountRule x, int child, int what) {
        return Check.child(x, child, what);
    }

    private static int right(CountRule x, int child) {
        return kid(x, child, 1) & ~kid(x, child, 2);
    }

    private static boolean has(int bits, int i) {
        return (bits >> i & 1) == 1;
    }

    /** The town with some lessons begun and some months lived. */
    private static CountRule lived(String town, int months) {
        CountRule x = Check.county(town);
        for (int child = 0; child < x.count(0); child++) {
            for (int ten = 0; ten < 9 && kid(x, child, 6) == NONE && child % 3 != 2; ten++) {
                x.teach(child, ten);
            }
        }
        if (months > 0) {
            x.months(months);
        }
        return x;
    }

    // ---- promises 22 and 23

    private static void aheadIsWhatWillBe() {
        for (String town : TOWNS) {
            CountRule x = lived(town, 1);
            x.fever(99);
            x.law(Check.tell(x, LAW, "y:c-m"));
            CountRule y = lived(town, 1);
            y.law(Check.tell(y, LAW, "y:c-m"));
            for (int n = 0; n <= 60; n++) {
                due("22: ruler behind " + n + " of " + town, x.ahead(n, 0), y.count(6));
                due("22: treasury behind " + n + " of " + town, x.ahead(n, 1), y.count(7));
                y.months(1);
            }
            due("22: apart", x.count(5), 1);
        }
    }

    private static void reignIsWhatWillBe() {
        for (String town : TOWNS) {
            CountRule x = lived(town, 1);
            CountRule y = lived(town, 1);
            int[] ofChild = new int[8];
            int[] ofNursery = new int[5];
            for (int n = 1; n <= 60; n++) {
                y.months(1);
                if (y.count(6) != NONE) {
                    ofChild[y.count(6)]++;
                    ofNursery[kid(y, y.count(6), 3)]++;
                }
                if (n < 4 || n > 57 || n % 10 == 0) {
                    for (int child = 0; child < x.count(0); child++) {
                        due("23: child " + child + " of the next " + n + " of " + town, x.reign(child, n, 0), ofChild[child]);
                    }
                    for (int nursery = 0; nursery < 5; nursery++) {
                        due("23: nursery " + nursery + " of the next " + n + " of " + town, x.reign(nursery, n, 1), ofNursery[nursery]);
                    }
                }
            }
        }
    }

    private static void aheadAndReignAreBounded() {
        CountRule x = Check.county("c;c;c;e");
        for (int n : new int[] {Integer.MIN_VALUE, -60, -1, 61, 62, Integer.MAX_VALUE}) {
            for (int what = 0; what < 2; what++) {
                due("22: not " + n, x.ahead(n, what), HIDDEN);
                due("23: not " + n, x.reign(0, n, what), NONE);
            }
        }
        due("23: not 0", x.reign(0, 0, 0), NONE);
        due("23: not 0", x.reign(0, 0, 1), NONE);
        for (int what : NOT_OF_TWO) {
            due("22: no what " + what, x.ahead(1, what), HIDDEN);
            due("23: no what " + what, x.reign(0, 1, what), NONE);
        }
        for (int child : NO_CHILD_OF_THREE) {
            due("23: no child " + child, x.reign(child, 1, 0), NONE);
        }
        for (int nursery : NO_NURSERY) {
            due("23: no nursery " + nursery, x.reign(nursery, 1, 1), NONE);
        }
        for (int i = 0; i < 5; i++) {
            due("23: a nursery " + i, x.reign(i, 1, 1), 0);
            due("23: no county", new CountRule().reign(i, 1, 0), NONE);
            due("23: no county, no nurseries", new CountRule().reign(i, 1, 1), NONE);
            due("22: no county", new CountRule().ahead(i, i % 2), HIDDEN);
        }
    }

    // ---- promise 24

    private static void plan(String why, CountRule x, int n, int row, int months, int length) {
        due("24: " + why + ", the row for " + n, x.plan(0, n, 0), row);
        due("24: " + why + ", months of " + n, x.plan(0, n, 1), months);
        due("24: " + why + ", its length for " + n, x.plan(0, n, 2), length);
    }

    private static void rowsOfNoneToThree() {
        plan("nothing is to be taught", Check.county("ca30k9;e"), 24, NONE, 24, 0);
        plan("nothing helps", Check.county("ca30k9"), 24, NONE, 0, 0);
        plan("ten 0 alone is no empty row", Check.county("cs1;ek1"), 24, 0, 24, 1);
        plan("one ten", Check.county("ck1s1;ek2"), 24, 1, 24, 1);
        plan("two, the least as digits", Check.county("cs1;ek2"), 24, 1, 23, 2);
        plan("two above others", Check.county("ck4s1;ek6"), 24, 45, 23, 2);
        plan("three, the least as digits", Check.county("cs1;ek3"), 24, 12, 22, 3);
        plan("the last three", Check.county("ck6s1;e"), 24, 678, 22, 3);
        plan("four are too many", Check.county("cs1;ek4"), 24, NONE, 0, 0);
        plan("four are too many above others", Check.county("ck5s1;e"), 24, NONE, 0, 0);
        plan("by twos", Check.county("cs1y2;ek5"), 24, 24, 22, 3);
        plan("by threes", Check.county("cs1y3;ek7"), 24, 36, 22, 3);
        plan("by twos, too many", Check.county("cs1y2;ek7"), 24, NONE, 0, 0);
        plan("up to u", Check.county("ck1s1;e;ru3"), 24, 12, 23, 2);
        plan("a wrong one", Check.county("ck9w3s1;e"), 24, 3, 24, 1);
        plan("a wrong one and two others", Check.county("ck7w0s1;e"), 24, 78, 22, 3);
    }

    private static void rowsLeaveOut() {
        for (int kept = 0; kept < 9; kept++) {
            CountRule x = Check.county("ck4s1;ek6");
            x.keep(0, kept, true);
            boolean wanted = kept == 4 || kept == 5;
            plan("kept from " + kept, x, 24, wanted ? NONE : 45, wanted ? 0 : 23, wanted ? 0 : 2);
            x.keep(0, kept, false);
            plan("kept no more from " + kept, x, 24, 45, 23, 2);
        }
        CountRule x = Check.county("ck4s1;ck4;ek6");
        x.keep(1, 4, true);
        plan("another is kept from it", x, 24, 45, 23, 2);
        x = Check.county("ca30k4s1;ca20k4s3;ek5");
        x.teach(1, 4);
        plan("another learns it meanwhile and is younger", x, 24, 4, 2, 1);
        plan("so more months do not help", x, 3, 4, 2, 1);
    }

    private static void rowsBeginOneBehindAnother() {
        for (int slow = 1; slow <= 9; slow++) {
            CountRule one = Check.county("ck2s" + slow + ";ek3");
            CountRule two = Check.county("ck1s" + slow + ";ek3");
            CountRule three = Check.county("ck0s" + slow + ";ek3");
            for (int n = 1; n <= 24; n++) {
                int[] rules = {n - slow + 1, n - 2 * slow + 1, n - 3 * slow + 1};
                plan("one, slow " + slow, one, n, rules[0] > 0 ? 2 : NONE, Math.max(0, rules[0]), rules[0] > 0 ? 1 : 0);
                plan("two, slow " + slow, two, n, rules[1] > 0 ? 12 : NONE, Math.max(0, rules[1]), rules[1] > 0 ? 2 : 0);
                plan("three, slow " + slow, three, n, rules[2] > 0 ? 12 : NONE, Math.max(0, rules[2]), rules[2] > 0 ? 3 : 0);
            }
        }
        for (int age = 80; age < 90; age++) {
            int rules = Math.max(0, 90 - age - 4);
            CountRule x = Check.county("ca" + age + "k8s4;e");
            plan("until it grows out at 90 from " + age, x, 24, rules > 0 ? 8 : NONE, rules, rules > 0 ? 1 : 0);
        }
        // month by month the elder asks 4 3 3 2 2 1 1 0 tens
        CountRule x = Check.county("ca30s1;ef2k4");
        plan("four tens are asked", x, 1, NONE, 0, 0);
        plan("three are asked, two can be had", x, 2, NONE, 0, 0);
        plan("three are asked and had", x, 3, 12, 1, 3);
        x = Check.county("ca30s1;ef2k3");
        plan("three are asked in the first month, two in the others", x, 3, 1, 2, 2);
        x = Check.county("ca30s2;ef2k2");
        plan("two are asked in the first month, one in the second", x, 2, 0, 1, 1);
        plan("it rules on without an examiner", x, 8, 0, 7, 1);
        for (int age = 38; age <= 42; age++) {
            x = Check.county("ca40k8s1;ca" + age + "k9;e");
            x.months(1);
            plan("less age than the ruler's, " + age, x, 10, age > 40 ? 8 : NONE, age > 40 ? 10 : 0, age > 40 ? 1 : 0);
            x = Check.county("ca40k8s1;ca" + age + "k9;e");
            plan("before there is one, the lowest of like age, " + age, x, 10, age >= 40 ? 8 : NONE, age >= 40 ? 10 : 0, age >= 40 ? 1 : 0);
        }
        x = Check.county("ca40k1s1;ca30k3;ca50k9;ea60k9;ea70k3f2");
        plan("the other elder tries, and a younger one passes", x, 5, NONE, 0, 0);
        x = Check.county("ca40k1s1;ca50k3;ca30k2;ea60k9;ea70k3");
        plan("the other elder tries, and an older one passes", x, 5, 12, 4, 2);
        x = Check.county("ca40k1s1;ca50k3;ca30k2;ea60k9;ea70k3f3");
        plan("the other elder tries and forgets, then a younger one passes", x, 5, 12, 1, 2);
        x = Check.county("ca50k9;ca40k9w1s3;e");
        due("24: of like use none is the first row", x.plan(0, 2, 0), NONE);
        due("24: another child's row", x.plan(1, 5, 0), 1);
        due("24: another child's months", x.plan(1, 5, 1), 3);
    }

    private static void planIsBounded() {
        CountRule x = Check.county("cs1;c;c;ek1");
        for (int n : new int[] {Integer.MIN_VALUE, -1, 0, 25, 26, 60, Integer.MAX_VALUE}) {
            for (int what = 0; what < 3; what++) {
                due("24: not " + n, x.plan(0, n, what), HIDDEN);
            }
        }
        plan("one month", x, 1, 0, 1, 1);
        plan("24 months", x, 24, 0, 24, 1);
        for (int what : new int[] {Integer.MIN_VALUE, -1, 3, 4, Integer.MAX_VALUE}) {
            due("24: no what " + what, x.plan(0, 1, what), HIDDEN);
        }
        for (int child : NO_CHILD_OF_THREE) {
            due("24: no child " + child, x.plan(child, 1, 0), HIDDEN);
        }
        x.teach(0, 8);
        for (int what = 0; what < 3; what++) {
            due("24: it has a lesson", x.plan(0, 1, what), HIDDEN);
            due("24: another has none", x.plan(1, 1, what) != HIDDEN ? 1 : 0, 1);
            due("24: no county", new CountRule().plan(0, 1, what), HIDDEN);
        }
        x.keep(0, 8, true);
        plan("its lesson ended", x, 24, 0, 24, 1);
        x = Check.county("ca30k8s3;e");
        plan("a row, then none", x, 3, 8, 1, 1);
        plan("none, behind a row", x, 2, NONE, 0, 0);
    }

    // ---- promise 25

    private static void keepersOfNoneOrMore() {
        CountRule x = Check.county("ca50k2;ca40k1s3;ca30k1s3;ca45k1s5;ca60k1s1;ca50k1s1;ek2");
        for (int child = 1; child < 6; child++) {
            x.teach(child, 1);
        }
        int[] sets = {0, 0, 6, 6, 14, 14, 14, 14, 14, 14, 14, 14};
        for (int n = 1; n <= 12; n++) {
            due("25: of " + n + " months", x.keepers(0, 1, n), sets[n - 1]);
        }
        due("25: another ten", x.keepers(0, 2, 2), 0);
        due("25: another ten does not help", x.keepers(0, 2, 3), NONE);
        due("25: one that can not rule", x.keepers(4, 1, 1), NONE);
        x = Check.county("ca40k1s1;ca50k2;ek2");
        x.teach(0, 1);
        due("25: it is not kept itself", x.keepers(0, 1, 12), 0);
        due("25: the other one, if that one is kept", x.keepers(1, 1, 12), 1);
        due("25: nobody was kept", kid(x, 0, 8) + kid(x, 1, 8), 0);
        due("25: the lesson goes on", kid(x, 0, 6), 1);
        due("25: acts are as they were", x.count(11), 1);
        x = Check.county("ca40k9;e");
        due("25: none can be enough", x.keepers(0, 0, 12), 0);
        due("25: without an examiner none is enough", Check.county("ca40k9").keepers(0, 0, 1), NONE);
        for (int age = 75; age < 85; age++) {
            x = Check.county("ca" + age + "k9;e");
            due("25: it grows out, " + age, x.keepers(0, 0, 12), age + 12 < 90 ? 0 : NONE);
        }
        x = Check.county("ca50k2n1;ca30k1s1;ca31k1s1;ca32k1s1;ca33k1s1;ca34k1s1;ca35k1s1;ca36k1s1;ek2");
        for (int child = 1; child < 8; child++) {
            x.teach(child, 1);
        }
        due("25: all the others", x.keepers(0, 1, 1), 254);
        due("25: the youngest needs none", x.keepers(1, 1, 12), 0);
        due("25: the last one needs all that are younger", x.keepers(7, 1, 12), 126);
    }

    private static void keepersAreBounded() {
        CountRule x = Check.county("ca10k9;ca20k9;ca30k9;e");
        for (int n : new int[] {Integer.MIN_VALUE, -1, 0, 13, 14, Integer.MAX_VALUE}) {
            due("25: not " + n, x.keepers(0, 0, n), NONE);
        }
        for (int n = 1; n <= 12; n++) {
            due("25: " + n, x.keepers(0, 0, n), 0);
        }
        for (int ten : new int[] {Integer.MIN_VALUE, -1, 9, 10, Integer.MAX_VALUE}) {
            due("25: no ten " + ten, x.keepers(0, ten, 1), NONE);
        }
        for (int ten = 0; ten < 9; ten++) {
            due("25: ten " + ten, x.keepers(0, ten, 1), 0);
        }
        for (int child : NO_CHILD_OF_THREE) {
            due("25: no child " + child, x.keepers(child, 0, 1), NONE);
        }
        due("25: no county", new CountRule().keepers(0, 0, 1), NONE);
    }

    // ---- promises 26 and 27

    private static void plumsForEachTen() {
        for (int p = 0; p <= 9; p++) {
            for (int k = 0; k <= 9; k++) {
                CountRule x = Check.county("ck" + k + ";ck" + k + "y2;ck9w" + k + ";e;rp" + p);
                due("26: by ones, p" + p + " k" + k, x.plums(0), p * (9 - k));
                due("26: by twos, p" + p + " k" + k, x.plums(1), p * ((10 - k) / 2));
                due("26: wrong ten " + k + ", p" + p, x.plums(2), k < 9 ? p : 0);
            }
        }
        due("26: up to u", Check.county("c;e;ru4p2").plums(0), 8);
        due("26: as the examiner knows", Check.county("c;ek3;rp2").plums(0), 6);
        CountRule x = Check.county("c;c;c;e");
        for (int child : NO_CHILD_OF_THREE) {
            due("26: no child " + child, x.plums(child), NONE);
        }
        for (int child = 0; child < 3; child++) {
            due("26: child " + child, x.plums(child), 9);
        }
        due("26: no examiner", Check.county("c;ek0").plums(0), NONE);
        due("26: no county", new CountRule().plums(0), NONE);
    }

    private static void peaceByAge() {
        for (int age = 27; age <= 32; age++) {
            CountRule x = Check.county("ca29k9;ca" + age + "k8n1;e;rp4");
            x.months(1);
            due("27: younger than the ruler, " + age, x.peace(1, 0), age < 29 ? 4 : NONE);
            due("27: who, " + age, x.peace(1, 1), age < 29 ? 1 : NONE);
        }
        for (int age = 47; age <= 52; age++) {
            CountRule x = Check.county("ca" + age + "k8n1;e;rp4g50");
            due("27: below g, " + age, x.peace(1, 0), age < 50 ? 4 : NONE);
            due("27: below g, who, " + age, x.peace(1, 1), age < 50 ? 0 : NONE);
        }
    }

    private static void peaceByPlums() {
        CountRule x = Check.county("ca30k5;ca31k6;ca32k6;ca33k2;e;rp3");
        due("27: the least", x.peace(0, 0), 9);
        due("27: of several the lowest", x.peace(0, 1), 1);
        x = Check.county("ca30k5;ca31k6;ca32k6;ca33k2;e;rp0");
        due("27: all for nothing", x.peace(0, 0), 0);
        due("27: all for nothing, the lowest", x.peace(0, 1), 0);
        x = Check.county("ca30k8;ca31k9;ca29k7;e;rp3");
        x.months(1);
        due("27: the ruler", x.peace(0, 1), 1);
        x.wrong(1, 0);
        due("27: the ruler, though it would not pass", x.peace(0, 0), 0);
        due("27: the ruler, who", x.peace(0, 1), 1);
        x.buy(0, 8);
        due("27: one that would pass now is lower", x.peace(0, 1), 0);
        due("27: for nothing, too", x.peace(0, 0), 0);
        x = Check.county("ca31k9;ca30k8;e;rp3");
        x.months(1);
        x.buy(1, 8);
        due("27: the ruler is the lower one", x.peace(0, 1), 0);
    }

    private static void peaceIsBounded() {
        CountRule x = Check.county("cn0;cn1;cn2;cn3;cn4;e");
        for (int nursery = 0; nursery < 5; nursery++) {
            due("27: nursery " + nursery, x.peace(nursery, 0), 9);
            due("27: nursery " + nursery + ", who", x.peace(nursery, 1), nursery);
            due("27: nobody of it", Check.county("cn" + nursery + ";e").peace((nursery + 1) % 5, 0), NONE);
            due("27: nobody of it, who", Check.county("cn" + nursery + ";e").peace((nursery + 1) % 5, 1), NONE);
        }
        for (int nursery : NO_NURSERY) {
            due("27: no nursery " + nursery, x.peace(nursery, 0), NONE);
            due("27: no nursery " + nursery, x.peace(nursery, 1), NONE);
        }
        for (int what : NOT_OF_TWO) {
            due("27: no what " + what, x.peace(0, what), NONE);
        }
        due("27: no examiner", Check.county("ck9;ek0").peace(0, 0), NONE);
        due("27: no county", new CountRule().peace(0, 0), NONE);
        x = Check.county("ca30k9;ef2k1");
        x.months(2);
        due("27: a ruler without an examiner", x.peace(0, 0), NONE);
    }

    // ---- promises 28 and 29

    private static void duelOfTwelveMonths() {
        for (int age = 74; age <= 91; age++) {
            CountRule x = Check.county("ca" + age + "k9n2;ca10n4;ca11n1;e");
            int rules = Math.max(0, Math.min(12, 89 - age));
            due("28: of the next 12 months, from " + age, x.duel(2, 4, 0, 1), rules);
            due("28: less how many the other does, from " + age, x.duel(4, 2, 1, 0), -rules);
            due("28: a third nursery rules", x.duel(4, 1, 1, 2), 0);
        }
        for (int slow = 1; slow <= 9; slow++) {
            CountRule x = Check.county("ca50k9n0;ca40k7s" + slow + "n1;ca60n1;ca70n0;e");
            x.teach(1, 8);
            due("28: until the other follows, slow " + slow, x.duel(0, 1, 0, 1), slow - 1 - (13 - slow));
            due("28: it does not, without ten 7", x.duel(0, 1, 0, 2), 12);
        }
    }

    private static void duelTeachesTheLowest() {
        for (int k = 0; k <= 9; k++) {
            CountRule x = Check.county("ca50k9n0;ca40k" + k + "n1;e;ru6");
            due("28: the lowest at once, k" + k, x.duel(0, 1, 0, 1), k >= 5 ? -12 : 12);
            x = Check.county("ca50k9n0;ca40k9w" + k + "n1;e;ru6");
            due("28: a wrong one at once, w" + k, x.duel(0, 1, 0, 1), -12);
        }
        CountRule x = Check.county("ca50k8n0;ca60k8n1;ca40k7n1;e");
        due("28: each has its own taught", x.duel(0, 1, 0, 1), 12);
        due("28: each, the other one", x.duel(1, 0, 1, 0), -12);
        x = Check.county("ca50k8n0;ca40k7n1;e");
        due("28: one rules alone", x.duel(0, 1, 0, 1), 12);
        due("28: nobody was taught", right(x, 0) + right(x, 1), 255 + 127);
        x = Check.county("ca50k9n0;ca40k9n1;e");
        due("28: there is none to teach", x.duel(0, 1, 0, 1), -12);
        due("28: nobody rules", Check.county("cn0;cn1;e").duel(0, 1, 0, 1), 0);
    }

    private static void duelIsBounded() {
        CountRule x = Check.county("ca30k9n0;ca31n1;ca32n4;e");
        due("28: nurseries 0 and 4", x.duel(0, 4, 0, 2), 12);
        due("28: nurseries 4 and 1", x.duel(4, 1, 2, 1), 0);
        for (int nursery : NO_NURSERY) {
            due("28: no nursery " + nursery, x.duel(nursery, 1, 0, 1), HIDDEN);
            due("28: no other nursery " + nursery, x.duel(0, nursery, 0, 1), HIDDEN);
        }
        for (int nursery = 0; nursery < 5; nursery++) {
            due("28: alike", x.duel(nursery, nursery, 0, 0), HIDDEN);
            due("28: alike", x.duel(nursery, nursery, 0, 1), HIDDEN);
            due("28: no county", new CountRule().duel(nursery, (nursery + 1) % 5, 0, 0), HIDDEN);
        }
        for (int child : NO_CHILD_OF_THREE) {
            due("28: no child " + child, x.duel(0, 1, child, 1), HIDDEN);
            due("28: no other child " + child, x.duel(0, 1, 0, child), HIDDEN);
        }
        for (int first = 0; first < 3; first++) {
            for (int second = 0; second < 3; second++) {
                boolean theirs = first == 0 && second == 1;
                due("28: children of theirs alone", x.duel(0, 1, first, second), theirs ? 12 : HIDDEN);
            }
        }
        due("28: a nursery without children", x.duel(0, 2, 0, 1), HIDDEN);
    }

    private static List<Integer> restsByDuels(CountRule x, int one, int other) {
        List<Integer> rests = new ArrayList<>();
        for (int first = 0; first < 8; first++) {
            for (int second = 0; second < 8; second++) {
                int has = x.duel(one, other, first, second);
                boolean rest = has != HIDDEN;
                for (int another = 0; another < 8 && rest; another++) {
                    int by = x.duel(one, other, another, second);
                    int against = x.duel(one, other, first, another);
                    rest = (by == HIDDEN || by <= has) && (against == HIDDEN || against >= has);
                }
                if (rest) {
                    rests.add(10 * first + second);
                }
            }
        }
        return rests;
    }

    private static void restsByTheirWords() {
        String[] towns = {
            "ca30k2n0s2;ca20k1w0n1s1y3;ca54k3n1;ea80f2k3;ea70k2;rg60u3p2",
            "ca30k8n1;ca31k8n1;ca32k8n1;ca33k8n1;ca30k8n3;ca29k7n3;ca34k8n3;ca40k8n3;e",
            "ca30k8n0;ca29k8n1;ca28k8n1;ca27k8n1;ca26k8n1;ca25k8n1;ca24k8n1;ca23k8n1;e",
            "ca23k8n4;ca24k8n4;ca25k8n4;ca26k8n4;ca27k8n4;ca28k8n4;ca29k7n4;ca30k8n0;e",
            "ca80k4n0;ca85k4n0;ca70k3n1;ca79k4n1;ek5f6;rg90",
            "ca20k2n0s1;ca30k1n1;ca21k3n0;ca22k3w1n1;ek4f3;ea71k2",
        };
        int[][] pairs = {{0, 1}, {1, 0}, {1, 3}, {3, 1}, {0, 4}, {4, 0}, {2, 3}};
        for (String town : towns) {
            CountRule x = Check.county(town);
            x.months(1);
            for (int[] pair : pairs) {
                List<Integer> rests = restsByDuels(x, pair[0], pair[1]);
                String what = "29: " + pair[0] + " and " + pair[1] + " of " + town;
                due(what, x.rests(pair[0], pair[1], NONE), rests.size());
                for (int i = 0; i < rests.size(); i++) {
                    due(what + ", rest " + i, x.rests(pair[0], pair[1], i), rests.get(i));
                }
                due(what + ", no more", x.rests(pair[0], pair[1], rests.size()), NONE);
            }
        }
        CountRule x = Check.county("ca30n0;ca31n0;ca32n0;ca33n0;ca34n1;ca35n1;ca36n1;ca37n1;e");
        due("29: nobody ever rules, so all rest", x.rests(0, 1, NONE), 16);
        for (int i = 0; i < 16; i++) {
            due("29: rising, " + i, x.rests(0, 1, i), 10 * (i / 4) + 4 + i % 4);
            due("29: rising the other way, " + i, x.rests(1, 0, i), 10 * (4 + i / 4) + i % 4);
        }
        due("29: no seventeenth", x.rests(0, 1, 16), NONE);
        due("29: the younger one's ten", Check.county("ca30k8n0;ca40k8n1;e").rests(0, 1, 0), 1);
        // the elder asks two tens until the fifth month and one then: each child of the one is met by another of the other
        x = Check.county("ca21n0;ca22k1w0n1;ca25k1n0;ca26k1n1;ef5k2;rg29");
        due("28: three months behind the fourth", x.duel(0, 1, 0, 1), 3);
        due("28: those less the first two", x.duel(0, 1, 0, 3), 1);
        due("28: the first three less two behind the fourth", x.duel(0, 1, 2, 1), 1);
        due("28: the first three", x.duel(0, 1, 2, 3), 3);
        due("29: a game that does not rest", x.rests(0, 1, NONE), 0);
        due("29: nor does it the other way", x.rests(1, 0, NONE), 0);
        due("29: so there is no first", x.rests(0, 1, 0), NONE);
    }

    private static void restsAreBounded() {
        CountRule x = Check.county("ca30n0;ca31n1;e");
        for (int nursery : NO_NURSERY) {
            due("29: no nursery " + nursery, x.rests(nursery, 1, NONE), NONE);
            due("29: no other nursery " + nursery, x.rests(0, nursery, NONE), NONE);
        }
        for (int nursery = 0; nursery < 5; nursery++) {
            due("29: alike", x.rests(nursery, nursery, NONE), NONE);
            due("29: alike, the first", x.rests(nursery, nursery, 0), NONE);
            due("29: no county", new CountRule().rests(nursery, (nursery + 1) % 5, NONE), NONE);
        }
        for (int i : new int[] {Integer.MIN_VALUE, -3, -2, 1, 2, Integer.MAX_VALUE}) {
            due("29: no such one " + i, x.rests(0, 1, i), NONE);
        }
        due("29: how many", x.rests(0, 1, NONE), 1);
        due("29: the first", x.rests(0, 1, 0), 1);
        due("29: one nursery without children", x.rests(0, 4, NONE), 0);
        due("29: the other one without children", x.rests(4, 0, NONE), 0);
        due("29: and none to tell", x.rests(0, 4, 0), NONE);
        due("29: both without children", x.rests(3, 4, NONE), 0);
    }

    // ---- promises 30 to 35

    private static void teachersByTheirWords() {
        String[] towns = {"ck2w4;ck3w8;ck0;cw0;ck9;ek2;ek3;ek5;ek9", "ck4w4;ck4w3;c;ek0;ek4", "ck1;c;cw8;ek1", "c;ck1", "ck2;c;ek0;ek0;ek0;ek0"};
        for (String town : towns) {
            CountRule x = Check.county(town);
            for (int child = 0; child < x.count(0); child++) {
                int found = 0;
                for (int set = 1; set < 1 << x.count(1); set++) {
                    int known = 0;
                    for (int elder = 0; elder < x.count(1); elder++) {
                        known |= has(set, elder) ? x.elder(elder, 2) : 0;
                    }
                    if ((right(x, child) & ~known) == 0 && (kid(x, child, 2) & known) == 0) {
                        due("30: " + found + " of child " + child + " of " + town, x.teachers(child, found), set);
                        found++;
                    }
                }
                due("30: how many of child " + child + " of " + town, x.teachers(child, NONE), found);
                for (int i : new int[] {Integer.MIN_VALUE, -2, found, found + 1, 15, Integer.MAX_VALUE}) {
                    due("30: no such one " + i, x.teachers(child, i), NONE);
                }
            }
        }
        CountRule x = Check.county("c;c;c;e;e;e;e");
        due("30: not none of four", x.teachers(0, NONE), 15);
        due("30: the first is 1", x.teachers(0, 0), 1);
        due("30: the last is 15", x.teachers(0, 14), 15);
        for (int child : NO_CHILD_OF_THREE) {
            due("30: no child " + child, x.teachers(child, NONE), NONE);
            due("30: no child " + child, x.teachers(child, 0), NONE);
        }
        due("30: no county", new CountRule().teachers(0, NONE), NONE);
        x = Check.county("ck9;ef1k9");
        due("30: known now", x.teachers(0, NONE), 1);
        x.months(1);
        due("30: no more", x.teachers(0, NONE), 0);
    }

    private static void spansByTheirWords() {
        CountRule x = Check.county("ck4w1;c");
        for (int v = 0; v <= 99; v++) {
            due("31: without a law " + v, x.spans(0, v), v % 10 == 0 ? 1 << v / 10 : 0);
        }
        x.law(Check.tell(x, LAW, "y:w*3+5"));
        due("31: w of the child as it is", kid(x, 0, 11), 8);
        due("31: w 0 of a ruler", x.spans(0, 5), 1022);
        due("31: w is not 1", x.spans(0, 8), 0);
        due("31: a count of 0 pays nothing", x.spans(0, 0), 1);
        x.law(Check.tell(x, LAW, "y:k"));
        for (int tens = 0; tens <= 9; tens++) {
            due("31: k as many", x.spans(0, tens), 1 << tens);
        }
        x.law(Check.tell(x, LAW, "y:c-1"));
        due("31: not below 0", x.spans(0, 0), 1);
        due("31: c less one", x.spans(0, 89), 512);
        x.law(Check.tell(x, LAW, "y:c+1"));
        due("31: not above the count", x.spans(0, 90), 512);
        due("31: a count of 0", x.spans(0, 0), 1);
        x = Check.county("ca23n3;ca24n4");
        x.months(2);
        x.law(Check.tell(x, LAW, "y:a"));
        due("31: age as now", x.spans(0, 25), 1023 - 7);
        due("31: another's age", x.spans(1, 26), 1023 - 7);
        due("31: held by the count", x.spans(0, 20), 4);
        x.law(Check.tell(x, LAW, "y:n"));
        due("31: nursery", x.spans(0, 3), 1022);
        due("31: another's nursery", x.spans(1, 4), 1022);
        x.law(Check.tell(x, LAW, "y:m"));
        due("31: the month as now", x.spans(0, 2), 1022);
    }

    private static void spansAreBounded() {
        CountRule x = Check.county("c;c;c");
        for (int v : new int[] {Integer.MIN_VALUE, -1, 100, 101, Integer.MAX_VALUE}) {
            due("31: not " + v, x.spans(0, v), NONE);
        }
        due("31: 0", x.spans(0, 0), 1);
        due("31: 99", x.spans(0, 99), 0);
        for (int child : NO_CHILD_OF_THREE) {
            due("31: no child " + child, x.spans(child, 0), NONE);
        }
        due("31: no county", new CountRule().spans(0, 0), NONE);
    }

    private static void chainsByTheirWords() {
        String[] towns = {TOWNS[0], TOWNS[1], TOWNS[2], TOWNS[4],
            "ca1k1;ca2k2;ca3k3;ca4k4;ca5k5;ca6k6;ca7k7;ca8k8", "ca8k1;ca7k2;ca6k3;ca5k4;ca4k5;ca3k6;ca2k7;ca1k8",
            "ca1k5;ca2k1;ca3k6;ca4k2;ca5k7;ca6k3;ca7k8;ca8k4", "ca1k1;ca1k2;ca2k1;ca2k2;ca3k2;ca3k3", "ca9k5;ca3k5;ca5k5"};
        for (String town : towns) {
            CountRule x = Check.county(town);
            int best = 0;
            for (int set = 1; set < 1 << x.count(0); set++) {
                boolean chain = true;
                for (int a = 0; a < x.count(0); a++) {
                    for (int b = 0; b < x.count(0); b++) {
                        if (a != b && has(set, a) && has(set, b)) {
                            int ages = Integer.compare(kid(x, a, 0), kid(x, b, 0));
                            chain &= ages != 0 && ages == Integer.compare(kid(x, a, 10), kid(x, b, 10));
                        }
                    }
                }
                if (chain && Integer.bitCount(set) > Integer.bitCount(best)) {
                    best = set;
                }
            }
            due("32: how many of " + town, x.chain(0), Integer.bitCount(best));
            due("32: who of " + town, x.chain(1), best);
        }
    }

    private static void chainsOfOneToEight() {
        StringBuilder town = new StringBuilder("ca10k0");
        for (int size = 1; size <= 8; size++) {
            CountRule x = Check.county(town.toString());
            due("32: all of " + size, x.chain(0), size);
            due("32: who of " + size, x.chain(1), (1 << size) - 1);
            town.append(";ca").append(10 + size).append("k").append(size);
        }
        due("32: like ages", Check.county("ca10k1;ca10k2").chain(1), 1);
        due("32: unlike ages", Check.county("ca10k1;ca11k2").chain(1), 3);
        due("32: like counts", Check.county("ca10k1;ca11k1").chain(1), 1);
        due("32: less far", Check.county("ca10k2;ca11k1").chain(1), 1);
        due("32: the older one first", Check.county("ca11k2;ca10k1").chain(1), 3);
        due("32: of several the least", Check.county("ca10k1;ca11k2;ca11k3").chain(1), 3);
        CountRule x = Check.county("c");
        for (int what : NOT_OF_TWO) {
            due("32: no what " + what, x.chain(what), NONE);
        }
        due("32: no county", new CountRule().chain(0), NONE);
        due("32: no county, who", new CountRule().chain(1), NONE);
    }

    private static boolean passes(int right, int minds, int u, int step) {
        for (int ten = 0; ten < u; ten++) {
            if (has(minds, ten) && ten % step == 0 && !has(right, ten)) {
                return false;
            }
        }
        return true;
    }

    private static void threesByTheirWords() {
        for (int u = 1; u <= 9; u++) {
            for (int k = 0; k <= 9; k++) {
                CountRule x = Check.county("ck" + k + "y1;ck" + k + "y2;ck" + k + "y3;ck9w" + k + "y1;ck9w" + k + "y2;ck9w" + k + "y3;ea80k8;e;ru" + u);
                int threes = 0;
                int fevered = 0;
                for (int child = 0; child < 6; child++) {
                    int right = child < 3 ? (1 << k) - 1 : 511 & ~(1 << k);
                    int step = child % 3 + 1;
                    threes |= passes(right, 255, u, step) && !passes(right, 255, u, 1) ? 1 << child : 0;
                    fevered |= passes(right & ~128, 255, u, step) ? 1 << child : 0;
                }
                due("33: u" + u + " k" + k, x.threes(), threes);
                due("41: u" + u + " k" + k, x.fevered(), fevered);
            }
        }
        due("33: no examiner", Check.county("ck9y3;ek0").threes(), NONE);
        due("33: the first child", Check.county("ck7y3;ck7;e").threes(), 1);
        due("33: eight children", Check.county("ck9;ck9;ck9;ck9;ck9;ck9;ck9;ck7y3;e").threes(), 128);
        due("33: none", Check.county("ck9y3;e").threes(), 0);
        due("33: no county", new CountRule().threes(), NONE);
    }

    private static void partiesOfNurseries() {
        CountRule x = Check.county("ck3n0;ck9w0n1;ck1n1;ck2n2;ck4n4w3;ck4n4w1");
        int[] parties = {7, 511, 3, 0, 15};
        for (int nursery = 0; nursery < 5; nursery++) {
            due("34: nursery " + nursery, x.party(nursery), parties[nursery]);
            due("34: no county", new CountRule().party(nursery), NONE);
        }
        for (int nursery : NO_NURSERY) {
            due("34: no nursery " + nursery, x.party(nursery), NONE);
        }
    }

    private static void heirs() {
        for (int age = 46; age <= 53; age++) {
            CountRule x = Check.county("ca" + age + "k9;e;rg50");
            due("35: below g, " + age, x.heir(), age < 50 ? 0 : NONE);
            due("44: below g, " + age, Check.county("ca" + age + "k9;ca99;e;rg50").rivals(1), age < 50 ? 1 : 0);
        }
        for (int age = 28; age <= 32; age++) {
            due("35: the youngest, of several the lowest, " + age,
                Check.county("ca30k9;ca" + age + "k9;e").heir(), age < 30 ? 1 : 0);
        }
        CountRule x = Check.county("ca30k9;e");
        x.months(1);
        due("35: nobody but the ruler", x.heir(), NONE);
        x = Check.county("ca30k9;ca40k8;ca50k9;e");
        x.months(1);
        due("35: but the ruler, who passes", x.heir(), 2);
        due("35: nobody passes", Check.county("ck8;e").heir(), NONE);
        due("35: no examiner", Check.county("ck9;ek0").heir(), NONE);
        due("35: no county", new CountRule().heir(), NONE);
    }

    // ---- promises 36 to 45

    private static void lateWithinSixty() {
        for (int begins : new int[] {0, 3, 4}) {
            for (int f = 1; f <= 9; f++) {
                for (int k = 0; k <= 9; k++) {
                    CountRule x = Check.county("c;ef" + f + "k" + k + ";ru" + (1 + k % 9));
                    if (begins > 0) {
                        x.months(begins);
                    }
                    int late = Math.max(0, f * k - begins);
                    due("36: f" + f + " k" + k + " from month " + begins, x.late(), late <= 60 ? late : NONE);
                }
            }
        }
        due("36: it never forgets", Check.county("c;ef0k1").late(), NONE);
        due("36: no elder", Check.county("c").late(), 0);
        due("36: the last of several", Check.county("c;ef9k2;ef3k5;ef1k9;ek0").late(), 18);
        due("36: one never forgets", Check.county("c;ef9k2;ef0k5").late(), NONE);
        due("36: no county", new CountRule().late(), NONE);
    }

    private static void withoutByItsWords() {
        String[] elders = {"ea50k2", "ea70k4", "ea60k3", "ea70k1"};
        String[] others = {"ea50k9", "ea50k9", "ea50k0", "ea50k1"};
        String[] children = {"ck0", "ck1", "ck2", "ck3", "ck4y2", "ck9w2", "ck9w0", "ck1y3"};
        for (String[] row : new String[][] {elders, others, {"ea1k9", "ea2k8", "ea3k7", "ea4k6"}, {"ea4k6", "ea3k7", "ea2k8", "ea1k9"}}) {
            for (int size = 0; size <= 4; size++) {
                withoutOf(String.join(";", children), row, size);
            }
        }
        CountRule x = Check.county("c;c;c;e");
        for (int child : NO_CHILD_OF_THREE) {
            due("37: no child " + child, x.before(child), NONE);
            due("38: no child " + child, x.without(child), NONE);
            due("39: no child " + child, x.spoil(child), NONE);
            due("40: no child " + child, x.soon(child), NONE);
            due("44: no child " + child, x.rivals(child), NONE);
        }
        due("37: no county", new CountRule().before(0), NONE);
        due("38: no county", new CountRule().without(0), NONE);
        due("38: two sets of one, the least", Check.county("ck1;ea9k2;ea9k2;ea8k1;ea7k1").without(0), 3);
        due("38: none can be enough", Check.county("ck1;ea9k1;ea8k9").without(0), 0);
        due("38: none is enough", Check.county("c;ea9k1;ea8k9").without(0), NONE);
        due("38: nobody who asks nothing is an examiner", Check.county("c;ek0").without(0), NONE);
    }

    private static void withoutOf(String children, String[] elders, int size) {
        StringBuilder town = new StringBuilder(children);
        for (int i = 0; i < size; i++) {
            town.append(';').append(elders[i]);
        }
        CountRule x = Check.county(town.toString());
        for (int child = 0; child < 8; child++) {
            int best = NONE;
            for (int absent = 0; absent < 1 << size; absent++) {
                StringBuilder rest = new StringBuilder(children);
                for (int i = 0; i < size; i++) {
                    rest.append(has(absent, i) ? "" : ";" + elders[i]);
                }
                CountRule y = Check.county(rest.toString());
                boolean enough = y.examiner() != NONE && y.passes(child, y.examiner()) == 1;
                if (enough && (best == NONE || Integer.bitCount(absent) < Integer.bitCount(best))) {
                    best = absent;
                }
            }
            due("38: child " + child + " of " + town, x.without(child), best);
        }
    }

    private static void spoilByItsWords() {
        for (int minds = 0; minds <= 9; minds++) {
            for (int y = 1; y <= 3; y++) {
                for (int k = 0; k <= 9; k++) {
                    String town = "ck" + k + "y" + y + ";ek" + minds;
                    CountRule x = Check.county(town);
                    int spoil = NONE;
                    for (int ten = 8; ten >= 0 && minds > 0 && x.passes(0, 0) == 1; ten--) {
                        CountRule z = Check.county(town);
                        z.wrong(0, ten);
                        spoil = z.passes(0, 0) == 0 ? ten : spoil;
                    }
                    due("39: " + town, x.spoil(0), spoil);
                    due("39: nothing was taught", kid(x, 0, 2), 0);
                }
            }
        }
        due("39: it passes", Check.county("ck9;e").spoil(0), 0);
        due("39: it does not pass", Check.county("ck8;e").spoil(0), NONE);
        due("39: no examiner", Check.county("ck9;ek0").spoil(0), NONE);
        due("39: no county", new CountRule().spoil(0), NONE);
        due("39: before another elder", Check.county("ck3;ea9;ea10k3").spoil(0), 0);
        due("39: not before another elder", Check.county("ck3;ea9k3;ea10").spoil(0), NONE);
        due("39: another one", Check.county("ck8;ck9;e").spoil(1), 0);
    }

    private static void soonBySlow() {
        for (int slow = 1; slow <= 9; slow++) {
            for (int k = 0; k <= 5; k++) {
                int wants = 4 - Math.min(4, k);
                CountRule x = Check.county("ck" + k + "s" + slow + ";ek4");
                due("40: slow " + slow + ", k" + k, x.soon(0), slow * wants);
                x.teach(0, 8);
                due("40: of whatever ten", x.soon(0), wants == 0 ? 0 : slow + slow * wants);
                if (slow > 1) {
                    x.months(1);
                    due("40: what is left of it", x.soon(0), wants == 0 ? 0 : slow - 1 + slow * wants);
                    x.undo();
                }
                x.undo();
                if (k < 4) {
                    x.teach(0, 3);
                    due("40: of one that it wants", x.soon(0), slow * wants);
                    if (slow > 1) {
                        x.months(1);
                        due("40: what is left of one that it wants", x.soon(0), slow * wants - 1);
                    }
                }
            }
        }
        CountRule x = Check.county("ck0s4;ek4");
        x.teach(0, 0);
        x.months(1);
        due("40: a lesson of ten 0", x.soon(0), 3 + 3 * 4);
        x = Check.county("ck3s3w1;ca20k9;ek4f2");
        x.teach(0, 1);
        due("40: as the examiner knows now", x.soon(0), 6);
        x.months(2);
        due("40: it forgot a ten", x.soon(0), 1);
        due("40: by twos", Check.county("cs2y2;e").soon(0), 10);
        due("40: by threes", Check.county("cs2y3;e").soon(0), 6);
        due("40: no examiner", Check.county("c;ek0").soon(0), NONE);
        due("40: no county", new CountRule().soon(0), NONE);
    }

    private static void feveredByTenSeven() {
        for (int minds = 6; minds <= 9; minds++) {
            for (int u = 6; u <= 9; u++) {
                CountRule x = Check.county("ck9;ck9y2;ck9y3;ck7;ck6;ca95k9;ek" + minds + ";ru" + u);
                int asked = Math.min(minds, u);
                int bits = (asked < 8 ? 1 | 32 : 0) | 2 | 4 | (asked < 8 ? 8 : 0) | (asked < 7 ? 16 : 0);
                due("41: asked " + asked, x.fevered(), bits);
            }
        }
        due("41: no examiner", Check.county("ck9;ek0").fevered(), NONE);
        due("41: nobody", Check.county("ck9;e").fevered(), 0);
        due("41: no county", new CountRule().fevered(), NONE);
    }

    private static void youngestByAge() {
        CountRule x = Check.county("ca30;ca20;ca30;ca20;ca0;ca99;ca98;ca30");
        int[] order = {4, 1, 3, 0, 2, 7, 6, 5};
        for (int i = 0; i < 8; i++) {
            due("42: " + i, x.youngest(i), order[i]);
        }
        for (int i : new int[] {Integer.MIN_VALUE, -2, -1, 8, 9, Integer.MAX_VALUE}) {
            due("42: no such one " + i, x.youngest(i), NONE);
        }
        due("42: one child", Check.county("c").youngest(0), 0);
        due("42: no second", Check.county("c").youngest(1), NONE);
        due("42: no county", new CountRule().youngest(0), NONE);
    }

    private static void richestIsFirst() {
        CountRule x = Check.county("ca70k3;ek2");
        Check.tell(x, LAW, "y:5");
        Check.tell(x, LAW, "y:6");
        Check.tell(x, LAW, "y:c");
        Check.tell(x, LAW, "y:9999");
        x.law(0);
        for (int n = 1; n <= 24; n++) {
            due("43: of several the first, " + n, x.richest(n, 0), NONE);
            due("43: that treasury, " + n, x.richest(n, 1), 30 * Math.min(19, n));
        }
        due("43: the law holds still", x.count(4), 0);
        due("43: apart", x.count(7), 0);
        x.months(2);
        due("43: with what is there", x.richest(2, 1), 10 + 60);
        due("43: nobody rules", Check.county("c;e").richest(24, 1), 0);
        for (int n : new int[] {Integer.MIN_VALUE, -1, 0, 25, 26, Integer.MAX_VALUE}) {
            due("43: not " + n, x.richest(n, 0), HIDDEN);
            due("43: not " + n, x.richest(n, 1), HIDDEN);
        }
        for (int what : NOT_OF_TWO) {
            due("43: no what " + what, x.richest(1, what), HIDDEN);
        }
        due("43: no county", new CountRule().richest(1, 0), HIDDEN);
        due("43: no county, the treasury", new CountRule().richest(1, 1), HIDDEN);
    }

    private static void rivalsAreYounger() {
        for (int age = 27; age <= 33; age++) {
            CountRule x = Check.county("ca30k9;ca" + age + "k9;ca" + age + "k8;e");
            due("44: younger, " + age, x.rivals(0), age < 30 ? 2 : 0);
            due("44: the other way, " + age, x.rivals(1), age > 30 ? 1 : 0);
            due("44: one that does not pass has rivals, too, " + age, x.rivals(2), age > 30 ? 1 : 0);
        }
        due("44: eight", Check.county("ca9k9;ca1k9;ca2k9;ca3k9;ca4k9;ca5k9;ca6k9;ca7k9;e").rivals(0), 254);
        due("44: no examiner", Check.county("ck9;ek0").rivals(0), NONE);
        due("44: no county", new CountRule().rivals(0), NONE);
    }

    private static void forgottenBelowU() {
        for (int u = 1; u <= 9; u++) {
            for (int k = 0; k <= 9; k++) {
                int unknown = ((1 << u) - 1) & ~((1 << k) - 1);
                due("45: u" + u + " k" + k, Check.county("ck9;ek" + k + ";ru" + u).forgotten(), unknown);
                due("45: two elders, u" + u + " k" + k, Check.county("ck9;ek0;ek" + k + ";ru" + u).forgotten(), unknown);
                due("45: four elders, u" + u + " k" + k, Check.county("c;ek1;ek0;ek1;ek" + k + ";ru" + u).forgotten(), unknown & ~1);
            }
            due("45: no elder, u" + u, Check.county("ck9;ru" + u).forgotten(), (1 << u) - 1);
        }
        due("45: no county", new CountRule().forgotten(), NONE);
    }
}
