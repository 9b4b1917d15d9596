import java.util.Random;

/** Runs of calls by fixed seeds, each answer compared with that of the plain form of the document. */
public final class AgainstPlainTest {
    private static final int[] EDGES = {Integer.MIN_VALUE, -1000000, -2, -1, 0, 1, 8, 9, 10, 11, 12, 13, 24, 25, 60, 61, 99, 100, Integer.MAX_VALUE};

    private final Random random;
    private final CountRule x = new CountRule();
    private final Plain plain = new Plain();
    private final String name;
    private int calls;

    private AgainstPlainTest(long seed) {
        random = new Random(seed);
        name = "seed " + seed + " call ";
    }

    public static void main(String[] args) {
        int seeds = args.length > 0 ? Integer.parseInt(args[0]) : 400;
        for (int seed = 0; seed < seeds && Check.isClean(); seed++) {
            new AgainstPlainTest(seed).run();
        }
        for (int seed = 0; seed < 20 * seeds && Check.isClean(); seed++) {
            new AgainstPlainTest(seed).compareFaults();
        }
        for (int seed = 0; seed < 5 * seeds && Check.isClean(); seed++) {
            new AgainstPlainTest(seed).compareRaces();
        }
        Check.close();
    }

    private void run() {
        if (random.nextInt(8) > 0) {
            tell(0, randomCounty());
        }
        while (calls < 480 && Check.isClean()) {
            step();
            compareState();
        }
    }

    private void due(String call, long got, long want) {
        calls++;
        Check.due(name + calls + " " + call, got, want);
    }

    private void compareFaults() {
        for (int i = 0; i < 10; i++) {
            for (int sort = 0; sort < 2; sort++) {
                String text = mutated(sort == 0 ? randomCounty() : randomLaw());
                if (text.length() <= 240) {
                    int want = sort == 0 ? PlainFaults.county(text) : PlainFaults.law(text);
                    Check.due("fault " + sort + " of \"" + text + "\"", Check.fault(sort, text), want);
                }
            }
        }
    }

    /** Counties in which many learn one ten at once, so that it matters who is kept from it. */
    private void compareRaces() {
        int ten = upTo(8);
        int kids = 2 + upTo(6);
        StringBuilder text = new StringBuilder("e").append(item("f", 0, 9, 4)).append(";ru").append(ten + 1).append(item("g", 40, 60, 4));
        for (int i = 0; i < kids; i++) {
            text.append(";ca").append(30 + upTo(8)).append("k").append(random.nextInt(3) == 0 ? ten + 1 : ten);
            text.append("n").append(upTo(1)).append("s").append(1 + upTo(7)).append(item("y", 1, 3, 2));
        }
        tell(0, text.toString());
        for (int i = 0; i < kids; i++) {
            if (random.nextInt(5) > 0) {
                due("teach " + i + " " + ten, x.teach(i, ten), plain.teach(i, ten));
            }
        }
        if (upTo(1) == 0) {
            due("months 1", x.months(1), plain.months(1));
        }
        for (int i = 0; i < kids; i++) {
            int n = 1 + upTo(11);
            due("keepers " + i + " " + ten + " " + n, x.keepers(i, ten, n), plain.keepers(i, ten, n));
            due("plan " + i + " " + n, x.plan(i, n, 0), plain.plan(i, n, 0));
            due("soon " + i, x.soon(i), plain.soon(i));
        }
        due("rests", x.rests(0, 1, -1), plain.rests(0, 1, -1));
        due("rests", x.rests(0, 1, 0), plain.rests(0, 1, 0));
        due("rests", x.rests(1, 0, 1), plain.rests(1, 0, 1));
    }

    // ---- texts

    private int upTo(int most) {
        return random.nextInt(most + 1);
    }

    private String blanks(String text) {
        if (random.nextInt(4) > 0) {
            return text;
        }
        StringBuilder wide = new StringBuilder();
        for (int i = 0; i < text.length(); i++) {
            boolean within = i > 0 && Character.isDigit(text.charAt(i)) && Character.isDigit(text.charAt(i - 1));
            wide.append(!within && random.nextInt(5) == 0 ? " " : "").append(text.charAt(i));
        }
        return wide.length() <= 240 ? wide.toString() : text;
    }

    private String item(String letter, int least, int most, int often) {
        return random.nextInt(10) < often ? letter + (least + upTo(most - least)) : "";
    }

    private String randomCounty() {
        int tight = 1 + upTo(8);
        StringBuilder text = new StringBuilder();
        int kids = 1 + upTo(7);
        int nurseries = upTo(4);
        for (int i = 0; i < kids; i++) {
            text.append(";c").append(item("a", 20, 20 + tight * 4, 9)).append(item("k", Math.max(0, tight - 3), tight, 9));
            text.append(item("w", 0, 9, 3)).append(item("n", 0, nurseries, 8)).append(item("s", 1, 1 + upTo(8), 8)).append(item("y", 1, 3, 4));
        }
        int elders = upTo(4);
        for (int i = 0; i < elders; i++) {
            text.append(";e").append(item("a", 60, 64, 9)).append(item("f", 0, 9, 5)).append(item("k", 0, Math.min(9, tight + 1), 9));
        }
        if (random.nextInt(4) > 0) {
            text.append(";r").append(item("g", 24, 99, 7)).append(item("u", 1, tight, 7)).append(item("p", 0, 9, 7));
        }
        return blanks(text.substring(1));
    }

    private String atom(int deep) {
        if (deep > 0 && random.nextInt(4) == 0) {
            return "[" + sum(deep - 1) + "]";
        }
        return random.nextInt(3) == 0 ? "" + random.nextInt(random.nextBoolean() ? 10 : 10000) : "" + "caknmw".charAt(upTo(5));
    }

    private String term(int deep) {
        String term = atom(deep);
        while (random.nextInt(3) == 0) {
            term += "*/".charAt(upTo(1)) + atom(deep);
        }
        return term;
    }

    private String sum(int deep) {
        String sum = term(deep);
        while (random.nextInt(3) == 0) {
            sum += "+-".charAt(upTo(1)) + term(deep);
        }
        return sum;
    }

    private String unit(int deep) {
        int kind = deep > 0 ? upTo(4) : 4;
        return kind == 0 ? "!" + unit(deep - 1) : kind == 1 ? "(" + condition(deep - 1) + ")"
            : sum(deep) + "=<>".charAt(upTo(2)) + sum(deep);
    }

    private String condition(int deep) {
        String condition = unit(deep);
        while (random.nextInt(4) == 0) {
            condition += "|&".charAt(upTo(1)) + unit(deep);
        }
        return condition;
    }

    private String randomLaw() {
        while (true) {
            StringBuilder law = new StringBuilder();
            int clauses = upTo(3);
            for (int i = 0; i <= clauses; i++) {
                law.append(i > 0 ? ";y:" : "y:");
                law.append(random.nextInt(4) > 0 ? condition(6) + "?" : "").append(sum(upTo(6)));
            }
            if (law.length() <= 240) {
                return blanks(law.toString());
            }
        }
    }

    private String mutated(String text) {
        String signs = " ;cerakwnsyfgup0123456789:?!|&()=<>+-*/[]m\u00e9";
        StringBuilder other = new StringBuilder(text);
        int changes = upTo(3);
        for (int i = 0; i < changes && other.length() > 0; i++) {
            int at = random.nextInt(other.length());
            char sign = signs.charAt(random.nextInt(signs.length()));
            int kind = upTo(4);
            if (kind == 0) {
                other.deleteCharAt(at);
            } else if (kind == 1) {
                other.setCharAt(at, sign);
            } else if (kind == 2) {
                other.insert(at, sign);
            } else if (kind == 3) {
                other.insert(at, other.charAt(at));
            } else {
                other.setLength(at);
            }
        }
        return other.toString();
    }

    private void tell(int sort, String text) {
        due("end(0)", x.end(0) ? 1 : 0, plain.end(0) ? 1 : 0);
        for (int from = 0; from < text.length(); from += 20) {
            int[] words = new int[5];
            for (int i = 0; i < 20 && from + i < text.length(); i++) {
                words[i / 4] |= (text.charAt(from + i) & 255) << (24 - i % 4 * 8);
            }
            due("feed", x.feed(words[0], words[1], words[2], words[3], words[4]), plain.feed(words));
        }
        due("fault(0)", x.fault(0), plain.fault(0));
        due("fault(1)", x.fault(1), plain.fault(1));
        due("text of " + text, x.text(sort), plain.text(sort));
    }

    // ---- calls

    private int some(int most) {
        return random.nextInt(12) == 0 ? EDGES[random.nextInt(EDGES.length)] : upTo(most);
    }

    private int kid() {
        return some(plain.now == null ? 1 : plain.now.kids.size() - 1);
    }

    private int elder() {
        return some(plain.now == null ? 1 : Math.max(0, plain.now.elders.size() - 1));
    }

    private int ten() {
        return some(plain.now == null ? 8 : Math.min(8, plain.now.upTo));
    }

    private void step() {
        int kind = upTo(99);
        if (kind == 0) {
            tell(upTo(1), mutated(randomCounty()));
        } else if (kind == 1) {
            tell(0, randomCounty());
        } else if (kind < 5) {
            tell(1, random.nextInt(4) == 0 ? mutated(randomLaw()) : randomLaw());
        } else if (kind < 7) {
            tapeCalls();
        } else if (kind < 45) {
            act();
        } else if (kind < 70) {
            foresee();
        } else {
            look();
        }
    }

    private void tapeCalls() {
        int[] w = {random.nextInt(), random.nextInt() & 0xff00ff, upTo(1) == 0 ? 0 : random.nextInt(), -1, 0x20202020};
        due("feed", x.feed(w[0], w[1], w[2], w[3], w[4]), plain.feed(w));
        int n = some(plain.tape.length());
        due("end(" + n + ")", x.end(n) ? 1 : 0, plain.end(n) ? 1 : 0);
        int sort = some(2);
        due("fault(" + sort + ")", x.fault(sort), plain.fault(sort));
        due("text(" + sort + ")", x.text(sort), plain.text(sort));
    }

    private void act() {
        int child = kid();
        int ten = ten();
        switch (upTo(11)) {
            case 0: case 1: due("teach " + child + " " + ten, x.teach(child, ten), plain.teach(child, ten)); break;
            case 2: due("wrong " + child + " " + ten, x.wrong(child, ten), plain.wrong(child, ten)); break;
            case 3: due("keep " + child + " " + ten, x.keep(child, ten, true), plain.keep(child, ten, true)); break;
            case 4: due("keep no more " + child + " " + ten, x.keep(child, ten, false), plain.keep(child, ten, false)); break;
            case 5: due("buy " + child + " " + ten, x.buy(child, ten), plain.buy(child, ten)); break;
            case 6: case 7: {
                int n = random.nextInt(5) > 0 ? 1 : some(60);
                due("months " + n, x.months(n), plain.months(n));
                break;
            }
            case 8: {
                int n = random.nextInt(3) > 0 ? 1 : some(60);
                long seed = random.nextLong();
                due("fevers " + n + " " + seed, x.fevers(n, seed), plain.fevers(n, seed));
                break;
            }
            case 9: {
                int times = random.nextInt(10) == 0 ? 45 : 1 + upTo(2);
                for (int i = 0; i < times; i++) {
                    due("undo", x.undo(), plain.undo());
                }
                break;
            }
            case 10:
                if (upTo(1) == 0) {
                    due("image", x.image(), plain.image());
                } else {
                    due("back", x.back(), plain.back());
                }
                break;
            default: {
                int v = some(99);
                due("fever " + v, x.fever(v) ? 1 : 0, plain.fever(v) ? 1 : 0);
                int law = some(4) - 1;
                due("law " + law, x.law(law) ? 1 : 0, plain.law(law) ? 1 : 0);
                break;
            }
        }
    }

    private void foresee() {
        int child = kid();
        int ten = ten();
        int what = some(1);
        int i = some(3) - 1;
        int one = some(4);
        int other = some(4);
        switch (upTo(8)) {
            case 0: { int n = some(60); due("ahead " + n + " " + what, x.ahead(n, what), plain.ahead(n, what)); break; }
            case 1: {
                int n = some(60);
                int whose = upTo(1) == 0 ? child : one;
                due("reign " + whose + " " + n + " " + what, x.reign(whose, n, what), plain.reign(whose, n, what));
                break;
            }
            case 2: case 3: {
                int n = some(24);
                int which = some(2);
                due("plan " + child + " " + n + " " + which, x.plan(child, n, which), plain.plan(child, n, which));
                break;
            }
            case 4: {
                int n = some(12);
                if (plain.now != null && child >= 0 && child < plain.now.kids.size() && plain.now.kids.get(child).lesson != Plain.NONE && upTo(1) == 0) {
                    ten = plain.now.kids.get(child).lesson;
                    child = upTo(plain.now.kids.size() - 1);
                }
                due("keepers " + child + " " + ten + " " + n, x.keepers(child, ten, n), plain.keepers(child, ten, n));
                break;
            }
            case 5: {
                int second = kid();
                due("duel", x.duel(one, other, child, second), plain.duel(one, other, child, second));
                if (plain.now != null && child >= 0 && child < plain.now.kids.size() && second >= 0 && second < plain.now.kids.size()) {
                    int a = plain.now.kids.get(child).nursery;
                    int b = plain.now.kids.get(second).nursery;
                    due("duel", x.duel(a, b, child, second), plain.duel(a, b, child, second));
                }
                break;
            }
            case 6: due("rests " + one + " " + other + " " + i, x.rests(one, other, i), plain.rests(one, other, i)); break;
            case 7: due("late", x.late(), plain.late()); break;
            default: { int n = some(24); due("richest " + n + " " + what, x.richest(n, what), plain.richest(n, what)); break; }
        }
    }

    private void look() {
        int child = kid();
        int elder = elder();
        int what = some(1);
        int i = some(5) - 1;
        int nursery = some(4);
        switch (upTo(19)) {
            case 0: due("passes", x.passes(child, elder), plain.passes(child, elder)); break;
            case 1: due("slips", x.slips(child, elder), plain.slips(child, elder)); break;
            case 2: due("plums", x.plums(child), plain.plums(child)); break;
            case 3: due("peace " + nursery + " " + what, x.peace(nursery, what), plain.peace(nursery, what)); break;
            case 4: due("teachers " + child + " " + i, x.teachers(child, i), plain.teachers(child, i)); break;
            case 5: {
                int v = upTo(1) == 0 ? some(99) : 10 * upTo(9);
                due("spans " + child + " " + v, x.spans(child, v), plain.spans(child, v));
                break;
            }
            case 6: due("chain", x.chain(what), plain.chain(what)); break;
            case 7: due("threes", x.threes(), plain.threes()); break;
            case 8: due("party", x.party(nursery), plain.party(nursery)); break;
            case 9: due("heir", x.heir(), plain.heir()); break;
            case 10: due("before", x.before(child), plain.before(child)); break;
            case 11: due("without", x.without(child), plain.without(child)); break;
            case 12: due("spoil", x.spoil(child), plain.spoil(child)); break;
            case 13: due("soon", x.soon(child), plain.soon(child)); break;
            case 14: due("fevered", x.fevered(), plain.fevered()); break;
            case 15: { int at = some(8); due("youngest", x.youngest(at), plain.youngest(at)); break; }
            case 16: due("rivals", x.rivals(child), plain.rivals(child)); break;
            case 17: due("forgotten", x.forgotten(), plain.forgotten()); break;
            case 18: { int which = some(2); due("rule", x.rule(which), plain.rule(which)); due("elder", x.elder(elder, which), plain.elder(elder, which)); break; }
            default: { int at = some(62); int which = some(2); due("log " + at, x.log(at, which), plain.log(at, which)); break; }
        }
    }

    /** One look at what is so behind each step, so that a refused call that changed something shows. */
    private void compareState() {
        int child = kid();
        int what = some(11);
        due("child " + child + " " + what, Check.child(x, child, what), plain.child(child, what));
        int elder = elder();
        due("elder " + elder, x.elder(elder, 2), plain.elder(elder, 2));
        int which = some(11);
        due("count " + which, x.count(which), plain.count(which));
        due("examiner", x.examiner(), plain.examiner());
    }
}
