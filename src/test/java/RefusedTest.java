import java.util.ArrayList;
import java.util.List;

/**
 * "What is refused answers as told and changes nothing": each refused call on an object that has lived,
 * whose whole state is compared then with that of a twin that never got the call. Looks change nothing either.
 */
public final class RefusedTest {
    private static final int NONE = -1;
    private static final int HIDDEN = -1000000;
    private static final int THROWN = Check.THROWN;
    private static final int LEAST = Integer.MIN_VALUE;
    private static final int MOST = Integer.MAX_VALUE;

    private interface Call {
        long on(CountRule x);
    }

    private interface Maker {
        CountRule make();
    }

    /** The object that the calls are tried on, and what it tells when nothing was called. */
    private final String name;
    private final Maker maker;
    private final String untouched;
    private int tried;

    private RefusedTest(String name, Maker maker) {
        this.name = name;
        this.maker = maker;
        untouched = Face.toldToTheEnd(maker.make());
    }

    public static void main(String[] args) {
        RefusedTest lived = new RefusedTest("lived", RefusedTest::livedTown);
        lived.refusesOnTheTape();
        lived.refusesWhatIsNotThere();
        lived.refusesActs();
        lived.refusesAhead();
        lived.refusesLooks();
        lived.looksChangeNothing();
        lived.actsChangeSomething();
        refusesWithoutACounty();
        refusesWithoutAnExaminer();
        refusesWhatIsFull();
        refusesWhatIsEmpty();
        imagesComeBack();
        imagesEnd();
        countsAreTold();
        Check.close();
    }

    private void refused(String call, long answer, Call it) {
        tried++;
        CountRule x = maker.make();
        Check.due(name + ": " + call, it.on(x), answer);
        Check.due(name + ": " + call + " changes nothing", Face.toldToTheEnd(x).equals(untouched), true);
    }

    private void changes(String call, Call it) {
        tried++;
        CountRule x = maker.make();
        it.on(x);
        Check.due(name + ": " + call + " is seen", Face.toldToTheEnd(x).equals(untouched), false);
    }

    private static long bit(boolean is) {
        return is ? 1 : 0;
    }

    /** A lesson, a ten kept from, wrong tens, months, plums, an image, a law that holds, a fever, something on the tape. */
    private static CountRule livedTown() {
        CountRule x = new CountRule();
        Check.tell(x, 1, "y:c/2");
        Check.tell(x, 1, "y:m");
        Check.tell(x, 1, "y:c");
        x.law(1);
        x.fever(50);
        Check.tell(x, 0, "ca30k3n1s3;ca20k2w1n2s2y2;ca25k3n0;ea80f3k3;ea70k2;rg60u4p2");
        x.months(2);
        x.keep(1, 4, true);
        x.image();
        x.teach(0, 3);
        x.wrong(2, 0);
        x.months(1);
        Check.feed(x, "c;xy");
        return x;
    }

    private void refusesOnTheTape() {
        for (int n : new int[] {LEAST, -2, -1, 5, 6, 240, 241, MOST}) {
            refused("end " + n, 0, x -> bit(x.end(n)));
        }
        for (int sort : new int[] {LEAST, -2, -1, 2, 3, MOST}) {
            refused("fault " + sort, -2, x -> x.fault(sort));
            refused("text " + sort, NONE, x -> x.text(sort));
        }
        refused("text of a faulty county", NONE, x -> x.text(0));
        refused("text of a faulty law", NONE, x -> x.text(1));
        for (int law : new int[] {LEAST, -2, 3, 4, MOST}) {
            refused("law " + law, 0, x -> bit(x.law(law)));
        }
        for (int v : new int[] {LEAST, -2, -1, 100, 101, MOST, 50}) {
            refused("fever " + v, 0, x -> bit(x.fever(v)));
        }
        Check.due("tried", tried, 8 + 12 + 2 + 5 + 7);
    }

    private void refusesWhatIsNotThere() {
        for (int far : new int[] {LEAST, -1, 3, 8, MOST}) {
            refused("child " + far, THROWN, x -> Check.child(x, far, 0));
            refused("passes of child " + far, NONE, x -> x.passes(far, 0));
            refused("slips of child " + far, NONE, x -> x.slips(far, 0));
            refused("rule " + far, NONE, x -> x.rule(far));
            refused("elder's what " + far, NONE, x -> x.elder(0, far));
            refused("log's what " + far, HIDDEN, x -> x.log(0, far));
            refused("log " + far, HIDDEN, x -> x.log(far, 0));
        }
        for (int far : new int[] {LEAST, -1, 2, 4, MOST}) {
            refused("elder " + far, NONE, x -> x.elder(far, 0));
            refused("passes before elder " + far, NONE, x -> x.passes(0, far));
            refused("slips before elder " + far, NONE, x -> x.slips(0, far));
        }
        for (int far : new int[] {LEAST, -1, 12, MOST}) {
            refused("child's what " + far, THROWN, x -> Check.child(x, 0, far));
            refused("count " + far, HIDDEN, x -> x.count(far));
        }
    }

    private void refusesActs() {
        for (int child : new int[] {LEAST, -1, 3, 8, MOST}) {
            refused("teach child " + child, NONE, x -> x.teach(child, 5));
            refused("wrong to child " + child, NONE, x -> x.wrong(child, 5));
            refused("keep child " + child, NONE, x -> x.keep(child, 5, true));
            refused("keep child no more " + child, NONE, x -> x.keep(child, 5, false));
            refused("buy for child " + child, NONE, x -> x.buy(child, 5));
        }
        for (int ten : new int[] {LEAST, -1, 9, 10, MOST}) {
            refused("teach ten " + ten, NONE, x -> x.teach(2, ten));
            refused("wrong ten " + ten, NONE, x -> x.wrong(2, ten));
            refused("keep from ten " + ten, NONE, x -> x.keep(2, ten, true));
            refused("keep no more from ten " + ten, NONE, x -> x.keep(2, ten, false));
            refused("buy ten " + ten, NONE, x -> x.buy(2, ten));
        }
        refused("teach one that has a lesson", NONE, x -> x.teach(0, 5));
        refused("teach one that has this lesson", NONE, x -> x.teach(0, 3));
        refused("teach a ten that one is kept from", NONE, x -> x.teach(1, 4));
        refused("teach a ten that is right", NONE, x -> x.teach(2, 1));
        refused("wrong once more", NONE, x -> x.wrong(1, 1));
        refused("wrong once more, by hand", NONE, x -> x.wrong(2, 0));
        refused("keep once more", NONE, x -> x.keep(1, 4, true));
        refused("keep no more, though it is not kept", NONE, x -> x.keep(1, 5, false));
        refused("buy a ten that is right", NONE, x -> x.buy(2, 1));
        for (int n : new int[] {LEAST, -1, 0, 61, 62, MOST}) {
            refused("months " + n, NONE, x -> x.months(n));
            refused("fevers " + n, NONE, x -> x.fevers(n, 7L));
        }
    }

    private void refusesAhead() {
        for (int n : new int[] {LEAST, -1, 61, MOST}) {
            refused("ahead " + n, HIDDEN, x -> x.ahead(n, 0));
            refused("reign of " + n, NONE, x -> x.reign(0, n, 0));
            refused("plan of " + n, HIDDEN, x -> x.plan(1, n, 0));
            refused("keepers of " + n, NONE, x -> x.keepers(0, 0, n));
            refused("richest of " + n, HIDDEN, x -> x.richest(n, 0));
        }
        refused("reign of 0", NONE, x -> x.reign(0, 0, 0));
        refused("plan of 0", HIDDEN, x -> x.plan(1, 0, 0));
        refused("plan of 25", HIDDEN, x -> x.plan(1, 25, 0));
        refused("plan of one with a lesson", HIDDEN, x -> x.plan(0, 5, 0));
        refused("keepers of 0", NONE, x -> x.keepers(0, 0, 0));
        refused("keepers of 13", NONE, x -> x.keepers(0, 0, 13));
        refused("richest of 0", HIDDEN, x -> x.richest(0, 0));
        refused("richest of 25", HIDDEN, x -> x.richest(25, 0));
        for (int far : new int[] {LEAST, -1, 3, 5, MOST}) {
            refused("ahead's what " + far, HIDDEN, x -> x.ahead(1, far));
            refused("reign's what " + far, NONE, x -> x.reign(0, 1, far));
            refused("reign of child " + far, NONE, x -> x.reign(far, 1, 0));
            refused("plan's what " + far, HIDDEN, x -> x.plan(1, 1, far));
            refused("plan of child " + far, HIDDEN, x -> x.plan(far, 1, 0));
            refused("keepers of child " + far, NONE, x -> x.keepers(far, 0, 1));
            refused("richest's what " + far, HIDDEN, x -> x.richest(1, far));
            refused("duel of child " + far, HIDDEN, x -> x.duel(1, 2, far, 1));
            refused("duel against child " + far, HIDDEN, x -> x.duel(1, 2, 0, far));
        }
        for (int far : new int[] {LEAST, -1, 9, MOST}) {
            refused("keepers from ten " + far, NONE, x -> x.keepers(0, far, 1));
        }
        for (int far : new int[] {LEAST, -1, 5, MOST}) {
            refused("reign of nursery " + far, NONE, x -> x.reign(far, 1, 1));
            refused("duel of nursery " + far, HIDDEN, x -> x.duel(far, 2, 0, 1));
            refused("duel against nursery " + far, HIDDEN, x -> x.duel(1, far, 0, 1));
            refused("rests of nursery " + far, NONE, x -> x.rests(far, 2, NONE));
            refused("rests against nursery " + far, NONE, x -> x.rests(1, far, NONE));
        }
        refused("duel of nurseries alike", HIDDEN, x -> x.duel(1, 1, 0, 0));
        refused("duel of a child of another", HIDDEN, x -> x.duel(1, 2, 2, 1));
        refused("rests of nurseries alike", NONE, x -> x.rests(2, 2, NONE));
        refused("rests below", NONE, x -> x.rests(1, 2, -2));
        refused("rests beyond", NONE, x -> x.rests(1, 2, 1));
    }

    private void refusesLooks() {
        for (int far : new int[] {LEAST, -1, 3, 8, MOST}) {
            refused("plums of child " + far, NONE, x -> x.plums(far));
            refused("teachers of child " + far, NONE, x -> x.teachers(far, NONE));
            refused("spans of child " + far, NONE, x -> x.spans(far, 0));
            refused("before of child " + far, NONE, x -> x.before(far));
            refused("without of child " + far, NONE, x -> x.without(far));
            refused("spoil of child " + far, NONE, x -> x.spoil(far));
            refused("soon of child " + far, NONE, x -> x.soon(far));
            refused("rivals of child " + far, NONE, x -> x.rivals(far));
            refused("youngest " + far, NONE, x -> x.youngest(far));
            refused("peace's what " + far, NONE, x -> x.peace(0, far));
            refused("chain's what " + far, NONE, x -> x.chain(far));
        }
        for (int far : new int[] {LEAST, -1, 5, MOST}) {
            refused("peace of nursery " + far, NONE, x -> x.peace(far, 0));
            refused("party of nursery " + far, NONE, x -> x.party(far));
        }
        for (int v : new int[] {LEAST, -1, 100, MOST}) {
            refused("spans of " + v, NONE, x -> x.spans(0, v));
        }
        refused("teachers below", NONE, x -> x.teachers(0, -2));
        refused("teachers beyond", NONE, x -> x.teachers(0, 15));
    }

    private void looksChangeNothing() {
        looks("the tape", x -> x.end(4) ? x.fault(0) * 10 + x.fault(1) : 0);
        looks("what holds", x -> bit(x.law(1)));
        looks("feeding nothing", x -> x.feed(0, 0, 0, 0, 0));
        looks("a child", x -> x.child(0, 11) + x.elder(0, 2) + x.rule(1) + x.passes(0, 0) + x.slips(0, 0) + x.examiner());
        looks("the log", x -> x.log(0, 0) + x.log(2, 2) + x.count(7));
        for (int n : new int[] {0, 1, 12, 60}) {
            looks("ahead " + n, x -> x.ahead(n, 0) + x.ahead(n, 1));
        }
        for (int n : new int[] {1, 12, 60}) {
            looks("reign " + n, x -> x.reign(0, n, 0) + x.reign(0, n, 1));
        }
        for (int n : new int[] {1, 7, 24}) {
            looks("plan " + n, x -> x.plan(1, n, 0) + x.plan(1, n, 1) + x.plan(2, n, 2));
            looks("richest " + n, x -> x.richest(n, 0) + x.richest(n, 1));
        }
        for (int n : new int[] {1, 12}) {
            looks("keepers " + n, x -> x.keepers(0, 3, n) + x.keepers(1, 3, n));
        }
        looks("a duel", x -> x.duel(1, 2, 0, 1) + x.duel(2, 0, 1, 2));
        looks("rests", x -> x.rests(1, 2, NONE) + x.rests(1, 2, 0) + x.rests(0, 3, NONE));
        looks("plums", x -> x.plums(0) + x.peace(1, 0) + x.peace(1, 1));
        looks("teachers", x -> x.teachers(0, NONE) + x.teachers(0, 0));
        looks("spans", x -> x.spans(0, 0) + x.spans(1, 99));
        looks("chains", x -> x.chain(0) + x.chain(1) + x.threes() + x.party(1));
        looks("heirs", x -> x.heir() + x.late() + x.before(1) + x.without(1) + x.spoil(0));
        looks("the rest", x -> x.soon(1) + x.fevered() + x.youngest(0) + x.rivals(2) + x.forgotten());
    }

    /** Asked twice of one object it is the same, and nothing is changed by it. */
    private void looks(String call, Call it) {
        CountRule x = maker.make();
        long once = it.on(x);
        refused(call, once, it);
        Check.due(name + ": " + call + " asked again", it.on(x), once);
        Check.due(name + ": " + call + " asked twice changes nothing", Face.toldToTheEnd(x).equals(untouched), true);
    }

    /** Without this the comparison with the twin might not see a thing. */
    private void actsChangeSomething() {
        changes("feed", x -> x.feed(1, 0, 0, 0, 0));
        changes("end", x -> bit(x.end(3)));
        changes("law", x -> bit(x.law(2)));
        changes("law none", x -> bit(x.law(NONE)));
        changes("fever", x -> bit(x.fever(51)));
        changes("teach", x -> x.teach(2, 8));
        changes("wrong", x -> x.wrong(1, 8));
        changes("keep", x -> x.keep(2, 8, true));
        changes("keep no more", x -> x.keep(1, 4, false));
        changes("buy", x -> x.buy(0, 8));
        changes("months", x -> x.months(1));
        changes("fevers", x -> x.fevers(1, 1L));
        changes("undo", x -> x.undo());
        changes("image", x -> x.image());
        changes("back", x -> x.back());
        changes("a county", x -> Check.tell(x, 0, "c"));
        changes("a law", x -> Check.tell(x, 1, "y:1"));
    }

    private static List<Call> callsThatNeedACounty(List<Long> answers) {
        List<Call> calls = new ArrayList<>();
        Call[] none = {
            x -> x.elder(0, 0), x -> x.rule(0), x -> x.passes(0, 0), x -> x.slips(0, 0), x -> x.examiner(), x -> x.teach(0, 0),
            x -> x.wrong(0, 0), x -> x.keep(0, 0, true), x -> x.keep(0, 0, false), x -> x.buy(0, 0), x -> x.months(1),
            x -> x.fevers(1, 1L), x -> x.undo(), x -> x.reign(0, 1, 0), x -> x.reign(0, 1, 1), x -> x.keepers(0, 0, 1),
            x -> x.plums(0), x -> x.peace(0, 0), x -> x.peace(0, 1), x -> x.rests(0, 1, NONE), x -> x.rests(0, 1, 0),
            x -> x.teachers(0, NONE), x -> x.spans(0, 0), x -> x.chain(0), x -> x.chain(1), x -> x.threes(), x -> x.party(0),
            x -> x.heir(), x -> x.late(), x -> x.before(0), x -> x.without(0), x -> x.spoil(0), x -> x.soon(0),
            x -> x.fevered(), x -> x.youngest(0), x -> x.rivals(0), x -> x.forgotten(), x -> x.image(), x -> x.back(),
        };
        Call[] hidden = {
            x -> x.log(0, 0), x -> x.ahead(0, 0), x -> x.ahead(1, 1), x -> x.plan(0, 1, 0), x -> x.duel(0, 1, 0, 1),
            x -> x.richest(1, 0), x -> x.richest(1, 1),
        };
        for (Call call : none) {
            calls.add(call);
            answers.add((long) NONE);
        }
        for (Call call : hidden) {
            calls.add(call);
            answers.add((long) HIDDEN);
        }
        calls.add(x -> Check.child(x, 0, 0));
        answers.add((long) THROWN);
        return calls;
    }

    private static void refusesWithoutACounty() {
        RefusedTest fresh = new RefusedTest("no county", CountRule::new);
        RefusedTest fed = new RefusedTest("no county, but laws and a tape", () -> {
            CountRule x = new CountRule();
            Check.tell(x, 1, "y:3");
            x.law(0);
            x.fever(9);
            Check.feed(x, "c;e");
            return x;
        });
        List<Long> answers = new ArrayList<>();
        List<Call> calls = callsThatNeedACounty(answers);
        for (int i = 0; i < calls.size(); i++) {
            fresh.refused("call " + i, answers.get(i), calls.get(i));
            fed.refused("call " + i, answers.get(i), calls.get(i));
        }
        int[] counts = {0, 0, 0, 0, NONE, 0, NONE, 0, 0, 0, 0, 0};
        for (int what = 0; what < 12; what++) {
            Check.due("1: a new object, count " + what, new CountRule().count(what), counts[what]);
        }
        Check.due("1: an empty tape as a county", new CountRule().fault(0), 0);
        Check.due("1: an empty tape as a law", new CountRule().fault(1), 0);
        Check.due("1: no law", bit(new CountRule().law(0)), 0);
    }

    private static void refusesWithoutAnExaminer() {
        RefusedTest town = new RefusedTest("no examiner", () -> {
            CountRule x = Check.county("ca30k9n1;ca20k9n2;ef1k1");
            x.months(1);
            return x;
        });
        town.refused("examiner", NONE, x -> x.examiner());
        town.refused("plums", NONE, x -> x.plums(0));
        town.refused("peace", NONE, x -> x.peace(1, 0));
        town.refused("peace, who", NONE, x -> x.peace(1, 1));
        town.refused("threes", NONE, x -> x.threes());
        town.refused("heir", NONE, x -> x.heir());
        town.refused("without", NONE, x -> x.without(0));
        town.refused("spoil", NONE, x -> x.spoil(0));
        town.refused("soon", NONE, x -> x.soon(0));
        town.refused("fevered", NONE, x -> x.fevered());
        town.refused("rivals", NONE, x -> x.rivals(0));
        town.refused("late", 0, x -> x.late());
        town.refused("keepers", NONE, x -> x.keepers(0, 0, 1));
        town.refused("before", 1, x -> x.before(0));
        town.refused("forgotten", 511, x -> x.forgotten());
    }

    private static void refusesWhatIsFull() {
        RefusedTest full = new RefusedTest("full", () -> {
            CountRule x = Check.county("ck9;e");
            for (int law = 0; law < 4; law++) {
                Check.tell(x, 1, "y:" + law);
            }
            Check.feed(x, "y:5" + " ".repeat(236));
            return x;
        });
        full.refused("a fifth law", NONE, x -> x.text(1));
        full.refused("two more bytes", NONE, x -> x.feed(0x20200000, 0, 0, 0, 0));
        full.refused("twenty more bytes", NONE, x -> x.feed(-1, -1, -1, -1, -1));
        full.refused("two more bytes apart", NONE, x -> x.feed(1, 0, 0, 0, 1));
        full.refused("no more bytes", 239, x -> x.feed(0, 0, 0, 0, 0));
        full.changes("one more byte", x -> x.feed(0, 0, 1, 0, 0));
        RefusedTest poor = new RefusedTest("poor", () -> {
            CountRule x = Check.county("ck9w3;e;rp1");
            x.teach(0, 3);
            return x;
        });
        poor.refused("buy without plums", NONE, x -> x.buy(0, 3));
    }

    private static void refusesWhatIsEmpty() {
        RefusedTest town = new RefusedTest("no acts, no image", () -> {
            CountRule x = Check.county("ck9;e");
            x.fever(5);
            x.law(Check.tell(x, 1, "y:7"));
            return x;
        });
        town.refused("undo", NONE, x -> x.undo());
        town.refused("back", NONE, x -> x.back());
        town.refused("log", HIDDEN, x -> x.log(0, 0));
        town.refused("text of an empty tape", NONE, x -> x.text(0));
        town.refused("law of an empty tape", NONE, x -> x.text(1));
    }

    // ---- promises 46 to 48

    private static void imagesComeBack() {
        for (int months : new int[] {0, 1, 39, 40, 41, 59, 60, 61, 90, 96, 97, 98, 150, 200}) {
            CountRule x = livedTown();
            x.end(0);
            for (int left = months; left > 0; left -= 30) {
                x.months(Math.min(30, left));
            }
            String acts = "" + x.count(11);
            String then = Face.told(x);
            Check.due("46: the month", x.image(), x.count(5));
            Check.due("46: an image changes nothing, acts", x.count(11), Integer.parseInt(acts));
            Check.due("46: an image changes nothing", Face.told(x).equals(then), true);
            x.months(60);
            x.keep(0, 0, true);
            x.wrong(1, 8);
            x.undo();
            x.fevers(60, 3L);
            Check.due("47: the month", x.back(), 3 + months);
            Check.due("47: no act can be undone then", x.count(11), 0);
            Check.due("47: none indeed", x.undo(), NONE);
            Check.due("47: it is so again", withoutActs(Face.told(x)).equals(withoutActs(then)), true);
            x.months(1);
            Check.due("47: acts begin anew", x.count(11), 1);
            Check.due("47: and are undone", x.undo(), 0);
            Check.due("47: as far as the image", withoutActs(Face.told(x)).equals(withoutActs(then)), true);
            Check.due("47: no further", x.undo(), NONE);
            x.months(2);
            Check.due("47: back again", x.back(), 3 + months);
            Check.due("47: it is so once more", withoutActs(Face.told(x)).equals(withoutActs(then)), true);
        }
    }

    /** The twelfth number of what is told is that of the acts. */
    private static String withoutActs(String told) {
        int at = 0;
        for (int i = 0; i < 11; i++) {
            at = told.indexOf(' ', at) + 1;
        }
        return told.substring(0, at) + told.substring(told.indexOf(' ', at));
    }

    private static void imagesEnd() {
        CountRule x = Check.county("ck9;e");
        Check.due("47: no image", x.back(), NONE);
        Check.due("46: of month 0", x.image(), 0);
        x.months(5);
        Check.due("46: instead of the one ahead", x.image(), 5);
        x.months(5);
        Check.due("47: the later one", x.back(), 5);
        x.fever(3);
        x.law(Check.tell(x, 1, "y:1"));
        x.back();
        Check.due("47: fever stays", x.count(8), 3);
        Check.due("47: the law stays", x.count(4), 0);
        Check.feed(x, "cx");
        x.text(0);
        Check.due("47: a county that is refused ends no image", x.back(), 5);
        x.end(0);
        Check.tell(x, 0, "ck9;e");
        Check.due("47: no image of this county", x.back(), NONE);
        Check.due("47: nothing came back", x.count(5), 0);
        x.months(2);
        Check.due("47: nor behind months", x.back(), NONE);
        Check.due("47: which stay", x.count(5) * 10 + x.count(11), 22);
        Check.due("46: an image of this one", x.image(), 2);
        Check.due("47: comes back", x.back(), 2);
        Check.due("46: no county", new CountRule().image(), NONE);
        Check.due("47: no county", new CountRule().back(), NONE);
    }

    private static void countsAreTold() {
        CountRule x = livedTown();
        int[] counts = {3, 2, 3, 4, 1, 3, 1, 1 + 2 + 3, 50, 10, 3, 6};
        for (int what = 0; what < 12; what++) {
            Check.due("48: count " + what, x.count(what), counts[what]);
        }
        Check.due("48: the ruler", x.count(6), x.log(0, 0));
        Check.due("48: length of the law", x.count(9), Check.child(x, x.count(6), 10));
        for (int what : new int[] {LEAST, -2, -1, 12, 13, MOST}) {
            Check.due("48: others " + what, x.count(what), HIDDEN);
            Check.due("48: others of a new object " + what, new CountRule().count(what), HIDDEN);
        }
    }
}
