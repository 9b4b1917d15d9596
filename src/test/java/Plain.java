import java.util.ArrayList;
import java.util.List;

/** The whole face once more over PlainCounty, word for word after the document and without haste. */
final class Plain {
    static final int NONE = -1;
    static final int HIDDEN = -1000000;

    String tape = "";
    PlainCounty now;
    PlainCounty image;
    final List<PlainCounty> acts = new ArrayList<>();
    final List<String> laws = new ArrayList<>();
    int holds = NONE;
    int fever;

    private String law() {
        return holds == NONE ? null : laws.get(holds);
    }

    private boolean kid(int child) {
        return now != null && child >= 0 && child < now.kids.size();
    }

    private boolean elderIs(int elder) {
        return now != null && elder >= 0 && elder < now.elders.size();
    }

    private static boolean in(int v, int least, int most) {
        return v >= least && v <= most;
    }

    private PlainCounty.Elder trier() {
        return now == null || now.examiner() == NONE ? null : now.elders.get(now.examiner());
    }

    private int act() {
        return acts.size();
    }

    private void remember() {
        acts.add(now.copy());
        if (acts.size() > 40) {
            acts.remove(0);
        }
    }

    int feed(int... words) {
        String more = "";
        for (int word : words) {
            for (int shift = 24; shift >= 0; shift -= 8) {
                char sign = (char) (word >>> shift & 255);
                more += sign == 0 ? "" : sign;
            }
        }
        if (tape.length() + more.length() > 240) {
            return NONE;
        }
        tape += more;
        return tape.length();
    }

    boolean end(int n) {
        if (!in(n, 0, tape.length())) {
            return false;
        }
        tape = tape.substring(0, n);
        return true;
    }

    int fault(int sort) {
        return sort == 0 ? PlainFaults.county(tape) : sort == 1 ? PlainFaults.law(tape) : -2;
    }

    int text(int sort) {
        if (!in(sort, 0, 1) || fault(sort) != NONE || sort == 1 && laws.size() == 4) {
            return NONE;
        }
        String text = tape;
        tape = "";
        if (sort == 1) {
            laws.add(text);
            return laws.size() - 1;
        }
        now = PlainCounty.told(text);
        image = null;
        acts.clear();
        return now.kids.size();
    }

    int child(int child, int what) {
        if (!kid(child) || !in(what, 0, 11)) {
            return Check.THROWN;
        }
        PlainCounty.Kid kid = now.kids.get(child);
        int[] all = {kid.age, kid.knows, kid.wrong, kid.nursery, kid.slow, kid.step, kid.lesson,
            kid.lesson == NONE ? 0 : kid.left, kid.kept, kid.ruled, kid.count(), now.tax(kid, law())};
        return all[what];
    }

    int elder(int elder, int what) {
        if (!elderIs(elder) || !in(what, 0, 2)) {
            return NONE;
        }
        PlainCounty.Elder old = now.elders.get(elder);
        return what == 0 ? old.age : what == 1 ? old.forgets : old.bits();
    }

    int rule(int what) {
        return now == null || !in(what, 0, 2) ? NONE : what == 0 ? now.grows : what == 1 ? now.upTo : now.plums;
    }

    boolean law(int law) {
        if (!in(law, NONE, laws.size() - 1)) {
            return false;
        }
        holds = law;
        return true;
    }

    boolean fever(int v) {
        if (!in(v, 0, 99) || v == fever) {
            return false;
        }
        fever = v;
        return true;
    }

    int passes(int child, int elder) {
        return !kid(child) || !elderIs(elder) ? NONE : now.passes(now.kids.get(child), now.elders.get(elder)) ? 1 : 0;
    }

    int slips(int child, int elder) {
        return !kid(child) || !elderIs(elder) ? NONE : now.slips(now.kids.get(child), now.elders.get(elder));
    }

    int examiner() {
        return now == null ? NONE : now.examiner();
    }

    int teach(int child, int ten) {
        if (!kid(child) || !in(ten, 0, 8)) {
            return NONE;
        }
        PlainCounty.Kid kid = now.kids.get(child);
        if (kid.lesson != NONE || (kid.kept >> ten & 1) == 1 || kid.right(ten)) {
            return NONE;
        }
        remember();
        kid.lesson = ten;
        kid.left = kid.slow;
        return act();
    }

    int wrong(int child, int ten) {
        if (!kid(child) || !in(ten, 0, 8) || (now.kids.get(child).wrong >> ten & 1) == 1) {
            return NONE;
        }
        remember();
        now.kids.get(child).wrong |= 1 << ten;
        return act();
    }

    private static void keepFrom(PlainCounty county, int child, int ten) {
        PlainCounty.Kid kid = county.kids.get(child);
        kid.kept |= 1 << ten;
        if (kid.lesson == ten) {
            kid.lesson = NONE;
        }
    }

    int keep(int child, int ten, boolean is) {
        if (!kid(child) || !in(ten, 0, 8) || (now.kids.get(child).kept >> ten & 1) == 1 == is) {
            return NONE;
        }
        remember();
        if (is) {
            keepFrom(now, child, ten);
        } else {
            now.kids.get(child).kept -= 1 << ten;
        }
        return act();
    }

    int buy(int child, int ten) {
        if (!kid(child) || !in(ten, 0, 8) || now.kids.get(child).right(ten) || now.treasury < now.plums) {
            return NONE;
        }
        remember();
        now.treasury -= now.plums;
        now.kids.get(child).getRight(ten);
        return now.treasury;
    }

    int months(int n) {
        if (now == null || !in(n, 1, 60)) {
            return NONE;
        }
        for (int i = 0; i < n; i++) {
            remember();
            now.live(law(), null, null);
        }
        return now.month;
    }

    int fevers(int n, long seed) {
        if (now == null || !in(n, 1, 60)) {
            return NONE;
        }
        PlainCounty.Draws draws = new PlainCounty.Draws();
        draws.odds = fever;
        draws.x = java.math.BigInteger.valueOf(seed).mod(java.math.BigInteger.ONE.shiftLeft(64));
        for (int i = 0; i < n; i++) {
            remember();
            now.live(law(), draws, null);
        }
        return now.month;
    }

    int undo() {
        if (acts.isEmpty()) {
            return NONE;
        }
        now = acts.remove(acts.size() - 1);
        return act();
    }

    int log(int i, int what) {
        if (now == null || !in(i, 0, now.log.size() - 1) || !in(what, 0, 2)) {
            return HIDDEN;
        }
        return now.log.get(now.log.size() - 1 - i)[what];
    }

    int ahead(int n, int what) {
        if (now == null || !in(n, 0, 60) || !in(what, 0, 1)) {
            return HIDDEN;
        }
        PlainCounty trial = now.copy();
        for (int i = 0; i < n; i++) {
            trial.live(law(), null, null);
        }
        return what == 0 ? trial.ruler : trial.treasury;
    }

    private static int rules(PlainCounty start, int n, int child, int nursery) {
        PlainCounty trial = start.copy();
        int ruled = 0;
        for (int i = 0; i < n; i++) {
            trial.live(null, null, null);
            if (trial.ruler != NONE && (child == NONE || trial.ruler == child)
                    && (nursery == NONE || trial.kids.get(trial.ruler).nursery == nursery)) {
                ruled++;
            }
        }
        return ruled;
    }

    int reign(int whose, int n, int what) {
        if (now == null || !in(n, 1, 60) || !in(what, 0, 1)) {
            return NONE;
        }
        if (what == 0) {
            return kid(whose) ? rules(now, n, whose, NONE) : NONE;
        }
        return in(whose, 0, 4) ? rules(now, n, NONE, whose) : NONE;
    }

    private static int rulesByRow(PlainCounty start, int child, int n, String row) {
        PlainCounty trial = start.copy();
        int[] begun = {0};
        java.util.function.Consumer<PlainCounty> next = county -> {
            PlainCounty.Kid kid = county.kids.get(child);
            if (kid.lesson == NONE && begun[0] < row.length()) {
                kid.lesson = row.charAt(begun[0]++) - '0';
                kid.left = kid.slow;
            }
        };
        next.accept(trial);
        int ruled = 0;
        for (int i = 0; i < n; i++) {
            trial.live(null, null, next);
            ruled += trial.ruler == child ? 1 : 0;
        }
        return ruled;
    }

    int plan(int child, int n, int what) {
        if (!kid(child) || !in(n, 1, 24) || !in(what, 0, 2) || now.kids.get(child).lesson != NONE) {
            return HIDDEN;
        }
        PlainCounty.Kid kid = now.kids.get(child);
        List<String> rows = new ArrayList<>();
        rows.add("");
        for (int from = 0; from < rows.size(); from++) {
            String row = rows.get(from);
            for (int ten = 0; ten < 9 && row.length() < 3; ten++) {
                if (!kid.right(ten) && (kid.kept >> ten & 1) == 0 && row.indexOf('0' + ten) < 0) {
                    rows.add(row + ten);
                }
            }
        }
        String best = null;
        int most = NONE;
        for (String row : rows) {
            int ruled = rulesByRow(now, child, n, row);
            if (ruled > most) {
                most = ruled;
                best = row;
            }
        }
        return what == 1 ? most : what == 2 ? best.length() : best.isEmpty() ? NONE : Integer.parseInt(best);
    }

    int keepers(int child, int ten, int n) {
        if (!kid(child) || !in(ten, 0, 8) || !in(n, 1, 12)) {
            return NONE;
        }
        for (int size = 0; size < 8; size++) {
            for (int set = 0; set < 1 << now.kids.size(); set++) {
                if (Integer.bitCount(set) != size || (set >> child & 1) == 1) {
                    continue;
                }
                PlainCounty trial = now.copy();
                for (int other = 0; other < 8; other++) {
                    if ((set >> other & 1) == 1) {
                        keepFrom(trial, other, ten);
                    }
                }
                if (rules(trial, n, child, NONE) == n) {
                    return set;
                }
            }
        }
        return NONE;
    }

    int plums(int child) {
        return trier() == null || !kid(child) ? NONE
            : now.plums * Integer.bitCount(now.slips(now.kids.get(child), trier()));
    }

    int peace(int nursery, int what) {
        if (trier() == null || !in(nursery, 0, 4) || !in(what, 0, 1)) {
            return NONE;
        }
        int least = Integer.MAX_VALUE;
        int who = NONE;
        for (int i = 0; i < now.kids.size(); i++) {
            PlainCounty.Kid kid = now.kids.get(i);
            if (kid.nursery != nursery || kid.age >= now.grows) {
                continue;
            }
            int plums;
            if (i == now.ruler) {
                plums = 0;
            } else if (now.ruler == NONE || kid.age < now.kids.get(now.ruler).age) {
                plums = plums(i);
            } else {
                continue;
            }
            if (plums < least) {
                least = plums;
                who = i;
            }
        }
        return who == NONE ? NONE : what == 0 ? least : who;
    }

    private boolean of(int child, int nursery) {
        return kid(child) && now.kids.get(child).nursery == nursery;
    }

    int duel(int one, int other, int first, int second) {
        if (!in(one, 0, 4) || !in(other, 0, 4) || one == other || !of(first, one) || !of(second, other)) {
            return HIDDEN;
        }
        PlainCounty trial = now.copy();
        for (int child : new int[] {first, second}) {
            for (int ten = 0; ten < 9; ten++) {
                if (!trial.kids.get(child).right(ten)) {
                    trial.kids.get(child).getRight(ten);
                    break;
                }
            }
        }
        return rules(trial, 12, NONE, one) - rules(trial, 12, NONE, other);
    }

    int rests(int one, int other, int i) {
        if (now == null || !in(one, 0, 4) || !in(other, 0, 4) || one == other) {
            return NONE;
        }
        List<Integer> rests = new ArrayList<>();
        for (int first = 0; first < 8; first++) {
            for (int second = 0; second < 8; second++) {
                int has = duel(one, other, first, second);
                if (has == HIDDEN) {
                    continue;
                }
                boolean rest = true;
                for (int another = 0; another < 8; another++) {
                    if (of(another, one)) {
                        rest &= duel(one, other, another, second) <= has;
                    }
                    if (of(another, other)) {
                        rest &= -duel(one, other, first, another) <= -has;
                    }
                }
                if (rest) {
                    rests.add(10 * first + second);
                }
            }
        }
        java.util.Collections.sort(rests);
        return i == NONE ? rests.size() : in(i, 0, rests.size() - 1) ? rests.get(i) : NONE;
    }

    int teachers(int child, int i) {
        if (!kid(child)) {
            return NONE;
        }
        PlainCounty.Kid kid = now.kids.get(child);
        List<Integer> sets = new ArrayList<>();
        for (int set = 1; set < 1 << now.elders.size(); set++) {
            boolean fits = true;
            for (int ten = 0; ten < 9; ten++) {
                boolean known = false;
                for (int elder = 0; elder < now.elders.size(); elder++) {
                    known |= (set >> elder & 1) == 1 && now.elders.get(elder).knows.contains(ten);
                }
                fits &= !kid.right(ten) || known;
                fits &= (kid.wrong >> ten & 1) == 0 || !known;
            }
            if (fits) {
                sets.add(set);
            }
        }
        return i == NONE ? sets.size() : in(i, 0, sets.size() - 1) ? sets.get(i) : NONE;
    }

    int spans(int child, int v) {
        if (!kid(child) || !in(v, 0, 99)) {
            return NONE;
        }
        PlainCounty.Kid kid = now.kids.get(child);
        int bits = 0;
        for (int tens = 0; tens <= 9; tens++) {
            if (PlainCounty.tax(law(), tens * 10, kid.age, tens, kid.nursery, now.month, 0) == v) {
                bits |= 1 << tens;
            }
        }
        return bits;
    }

    int chain(int what) {
        if (now == null || !in(what, 0, 1)) {
            return NONE;
        }
        int best = 0;
        for (int set = 0; set < 1 << now.kids.size(); set++) {
            List<PlainCounty.Kid> row = new ArrayList<>();
            for (int i = 0; i < now.kids.size(); i++) {
                if ((set >> i & 1) == 1) {
                    row.add(now.kids.get(i));
                }
            }
            row.sort((a, b) -> a.age - b.age);
            boolean rises = true;
            for (int i = 1; i < row.size(); i++) {
                rises &= row.get(i - 1).age < row.get(i).age && row.get(i - 1).count() < row.get(i).count();
            }
            if (rises && row.size() > Integer.bitCount(best)) {
                best = set;
            }
        }
        return what == 0 ? Integer.bitCount(best) : best;
    }

    private interface Test {
        boolean holds(PlainCounty.Kid kid);
    }

    private int bits(Test test) {
        int bits = 0;
        for (int i = 0; i < now.kids.size(); i++) {
            bits |= test.holds(now.kids.get(i)) ? 1 << i : 0;
        }
        return bits;
    }

    int threes() {
        return trier() == null ? NONE : bits(kid -> {
            PlainCounty.Kid byOnes = kid.copy();
            byOnes.step = 1;
            return now.passes(kid, trier()) && !now.passes(byOnes, trier());
        });
    }

    int party(int nursery) {
        if (now == null || !in(nursery, 0, 4)) {
            return NONE;
        }
        int tens = 0;
        for (PlainCounty.Kid kid : now.kids) {
            tens |= kid.nursery == nursery ? kid.rights() : 0;
        }
        return tens;
    }

    int heir() {
        if (trier() == null) {
            return NONE;
        }
        int best = NONE;
        for (int i = 0; i < now.kids.size(); i++) {
            PlainCounty.Kid kid = now.kids.get(i);
            if (i != now.ruler && kid.age < now.grows && now.passes(kid, trier())
                    && (best == NONE || kid.age < now.kids.get(best).age)) {
                best = i;
            }
        }
        return best;
    }

    int late() {
        if (now == null) {
            return NONE;
        }
        PlainCounty trial = now.copy();
        for (int n = 0; n <= 60; n++) {
            if (trial.examiner() == NONE) {
                return n;
            }
            trial.live(null, null, null);
        }
        return NONE;
    }

    int before(int child) {
        if (!kid(child)) {
            return NONE;
        }
        int bits = 0;
        for (int i = 0; i < now.elders.size(); i++) {
            bits |= passes(child, i) == 1 ? 1 << i : 0;
        }
        return bits;
    }

    int without(int child) {
        if (!kid(child)) {
            return NONE;
        }
        for (int size = 0; size <= now.elders.size(); size++) {
            for (int set = 0; set < 1 << now.elders.size(); set++) {
                PlainCounty trial = now.copy();
                for (int i = now.elders.size() - 1; i >= 0; i--) {
                    if ((set >> i & 1) == 1) {
                        trial.elders.remove(i);
                    }
                }
                int trier = trial.examiner();
                if (Integer.bitCount(set) == size && trier != NONE
                        && trial.passes(trial.kids.get(child), trial.elders.get(trier))) {
                    return set;
                }
            }
        }
        return NONE;
    }

    int spoil(int child) {
        if (trier() == null || !kid(child) || !now.passes(now.kids.get(child), trier())) {
            return NONE;
        }
        for (int ten = 0; ten < 9; ten++) {
            PlainCounty.Kid kid = now.kids.get(child).copy();
            kid.wrong |= 1 << ten;
            if (!now.passes(kid, trier())) {
                return ten;
            }
        }
        return NONE;
    }

    int soon(int child) {
        if (trier() == null || !kid(child)) {
            return NONE;
        }
        PlainCounty.Kid kid = now.kids.get(child);
        int wants = now.slips(kid, trier());
        if (wants == 0) {
            return 0;
        }
        int months = kid.lesson == NONE ? 0 : kid.left;
        for (int ten = 0; ten < 9; ten++) {
            months += (wants >> ten & 1) == 1 && ten != kid.lesson ? kid.slow : 0;
        }
        return months;
    }

    int fevered() {
        return trier() == null ? NONE : bits(kid -> {
            PlainCounty.Kid ill = kid.copy();
            ill.knows &= ~128;
            return now.passes(ill, trier());
        });
    }

    int youngest(int i) {
        if (now == null || !in(i, 0, now.kids.size() - 1)) {
            return NONE;
        }
        List<Integer> order = new ArrayList<>();
        for (int child = 0; child < now.kids.size(); child++) {
            order.add(child);
        }
        order.sort((a, b) -> now.kids.get(a).age - now.kids.get(b).age);
        return order.get(i);
    }

    int richest(int n, int what) {
        if (now == null || !in(n, 1, 24) || !in(what, 0, 1)) {
            return HIDDEN;
        }
        int was = holds;
        int best = NONE;
        int most = NONE;
        for (holds = NONE; holds < laws.size(); holds++) {
            if (ahead(n, 1) > most) {
                most = ahead(n, 1);
                best = holds;
            }
        }
        holds = was;
        return what == 0 ? best : most;
    }

    int rivals(int child) {
        return trier() == null || !kid(child) ? NONE : bits(kid ->
            kid.age < now.kids.get(child).age && kid.age < now.grows && now.passes(kid, trier()));
    }

    int forgotten() {
        if (now == null) {
            return NONE;
        }
        int bits = 0;
        for (int ten = 0; ten < now.upTo; ten++) {
            boolean known = false;
            for (PlainCounty.Elder elder : now.elders) {
                known |= elder.knows.contains(ten);
            }
            bits |= known ? 0 : 1 << ten;
        }
        return bits;
    }

    int image() {
        if (now == null) {
            return NONE;
        }
        image = now.copy();
        return now.month;
    }

    int back() {
        if (image == null) {
            return NONE;
        }
        now = image.copy();
        acts.clear();
        return now.month;
    }

    int count(int what) {
        boolean is = now != null;
        switch (what) {
            case 0: return is ? now.kids.size() : 0;
            case 1: return is ? now.elders.size() : 0;
            case 2: return laws.size();
            case 3: return tape.length();
            case 4: return holds;
            case 5: return is ? now.month : 0;
            case 6: return is ? now.ruler : NONE;
            case 7: return is ? now.treasury : 0;
            case 8: return fever;
            case 9: return is && now.ruler != NONE ? now.kids.get(now.ruler).count() : 0;
            case 10: return is ? now.log.size() : 0;
            case 11: return acts.size();
            default: return HIDDEN;
        }
    }
}
