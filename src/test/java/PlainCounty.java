import java.util.ArrayList;
import java.util.List;

/** The county once more, in the plainest words: objects and lists, copied whole for each trial. */
final class PlainCounty {
    static final int NONE = -1;

    static final class Kid {
        int age = 40;
        int knows;
        int wrong;
        int nursery;
        int slow = 2;
        int step = 1;
        int lesson = NONE;
        int left;
        int kept;
        int ruled;

        Kid copy() {
            Kid kid = new Kid();
            kid.age = age;
            kid.knows = knows;
            kid.wrong = wrong;
            kid.nursery = nursery;
            kid.slow = slow;
            kid.step = step;
            kid.lesson = lesson;
            kid.left = left;
            kid.kept = kept;
            kid.ruled = ruled;
            return kid;
        }

        boolean right(int ten) {
            return (knows >> ten & 1) == 1 && (wrong >> ten & 1) == 0;
        }

        int rights() {
            int bits = 0;
            for (int ten = 0; ten < 9; ten++) {
                bits += right(ten) ? 1 << ten : 0;
            }
            return bits;
        }

        int count() {
            int ten = 0;
            while (ten < 9 && right(ten)) {
                ten++;
            }
            return ten * 10;
        }

        void getRight(int ten) {
            knows |= 1 << ten;
            wrong &= ~(1 << ten);
        }
    }

    static final class Elder {
        int age = 70;
        int forgets;
        List<Integer> knows = new ArrayList<>();

        Elder copy() {
            Elder elder = new Elder();
            elder.age = age;
            elder.forgets = forgets;
            elder.knows = new ArrayList<>(knows);
            return elder;
        }

        int bits() {
            int bits = 0;
            for (int ten : knows) {
                bits |= 1 << ten;
            }
            return bits;
        }
    }

    List<Kid> kids = new ArrayList<>();
    List<Elder> elders = new ArrayList<>();
    int grows = 90;
    int upTo = 9;
    int plums = 1;
    int month;
    int ruler = NONE;
    int treasury;
    List<int[]> log = new ArrayList<>();

    PlainCounty copy() {
        PlainCounty other = new PlainCounty();
        for (Kid kid : kids) {
            other.kids.add(kid.copy());
        }
        for (Elder elder : elders) {
            other.elders.add(elder.copy());
        }
        other.grows = grows;
        other.upTo = upTo;
        other.plums = plums;
        other.month = month;
        other.ruler = ruler;
        other.treasury = treasury;
        other.log = new ArrayList<>(log);
        return other;
    }

    static PlainCounty told(String text) {
        PlainCounty county = new PlainCounty();
        for (String clause : text.replace(" ", "").split(";")) {
            char kind = clause.charAt(0);
            int tens = number(clause, 'k', kind == 'c' ? 0 : 9);
            if (kind == 'c') {
                Kid kid = new Kid();
                kid.age = number(clause, 'a', 40);
                kid.knows = (1 << tens) - 1;
                int wrong = number(clause, 'w', 9);
                kid.wrong = wrong == 9 ? 0 : 1 << wrong;
                kid.nursery = number(clause, 'n', 0);
                kid.slow = number(clause, 's', 2);
                kid.step = number(clause, 'y', 1);
                county.kids.add(kid);
            } else if (kind == 'e') {
                Elder elder = new Elder();
                elder.age = number(clause, 'a', 70);
                elder.forgets = number(clause, 'f', 0);
                for (int ten = 0; ten < tens; ten++) {
                    elder.knows.add(ten);
                }
                county.elders.add(elder);
            } else {
                county.grows = number(clause, 'g', 90);
                county.upTo = number(clause, 'u', 9);
                county.plums = number(clause, 'p', 1);
            }
        }
        return county;
    }

    private static int number(String clause, char letter, int otherwise) {
        int at = clause.indexOf(letter, 1);
        if (at < 0) {
            return otherwise;
        }
        int end = at + 1;
        while (end < clause.length() && Character.isDigit(clause.charAt(end))) {
            end++;
        }
        return Integer.parseInt(clause.substring(at + 1, end));
    }

    boolean passes(Kid kid, Elder elder) {
        for (int ten : elder.knows) {
            if (ten < upTo && ten % kid.step == 0 && !kid.right(ten)) {
                return false;
            }
        }
        return true;
    }

    int slips(Kid kid, Elder elder) {
        int bits = 0;
        for (int ten : elder.knows) {
            if (ten < upTo && ten % kid.step == 0 && !kid.right(ten)) {
                bits |= 1 << ten;
            }
        }
        return bits;
    }

    int examiner() {
        int best = NONE;
        for (int i = 0; i < elders.size(); i++) {
            boolean asks = false;
            for (int ten : elders.get(i).knows) {
                asks |= ten < upTo;
            }
            if (asks && (best == NONE || elders.get(i).age > elders.get(best).age)) {
                best = i;
            }
        }
        return best;
    }

    int tax(Kid kid, String law) {
        return tax(law, kid.count(), kid.age, Integer.bitCount(kid.rights()), kid.nursery, month, Integer.bitCount(kid.wrong));
    }

    static int tax(String law, int... caknmw) {
        int count = caknmw[0];
        if (law == null) {
            return count;
        }
        return Math.max(0, Math.min(count, PlainLaw.worth(law.replace(" ", ""), caknmw)));
    }

    /** The draws of fevers: x and the odds; null without fevers. */
    static final class Draws {
        java.math.BigInteger x;
        int odds;

        int draw(int of) {
            java.math.BigInteger round = java.math.BigInteger.ONE.shiftLeft(64);
            x = x.multiply(new java.math.BigInteger("6364136223846793005"))
                    .add(new java.math.BigInteger("1442695040888963407")).mod(round);
            return x.shiftRight(33).mod(java.math.BigInteger.valueOf(of)).intValue();
        }
    }

    void live(String law, Draws draws, java.util.function.Consumer<PlainCounty> behindLessons) {
        month++;
        for (Kid kid : kids) {
            kid.age++;
        }
        for (Elder elder : elders) {
            if (elder.forgets != 0 && month % elder.forgets == 0 && !elder.knows.isEmpty()) {
                elder.knows.remove(elder.knows.size() - 1);
            }
        }
        for (Kid kid : kids) {
            if (kid.lesson != NONE && --kid.left == 0) {
                kid.getRight(kid.lesson);
                kid.lesson = NONE;
            }
        }
        if (behindLessons != null) {
            behindLessons.accept(this);
        }
        if (draws != null) {
            for (Kid kid : kids) {
                if (draws.draw(100) < draws.odds) {
                    kid.knows &= ~(1 << 7);
                }
            }
        }
        if (ruler != NONE && kids.get(ruler).age >= grows) {
            ruler = NONE;
        }
        int examiner = examiner();
        if (examiner != NONE) {
            int best = NONE;
            for (int i = 0; i < kids.size(); i++) {
                Kid kid = kids.get(i);
                if (kid.age < grows && passes(kid, elders.get(examiner))
                        && (ruler == NONE || kid.age < kids.get(ruler).age)
                        && (best == NONE || kid.age < kids.get(best).age)) {
                    best = i;
                }
            }
            if (best != NONE) {
                ruler = best;
            }
        }
        int paid = 0;
        if (ruler != NONE) {
            kids.get(ruler).ruled++;
            paid = tax(kids.get(ruler), law);
            treasury += paid;
        }
        log.add(new int[] {ruler, examiner, paid});
        if (log.size() > 60) {
            log.remove(0);
        }
    }
}
