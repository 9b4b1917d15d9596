import java.util.NoSuchElementException;

/**
 * The youngest who can count: a county of children, elders and a rule, told as a text, lived month
 * by month and looked at from many sides. The document's promises say what each call answers.
 */
public final class CountRule {
    public static final int NONE = -1;
    public static final int HIDDEN = -1000000;

    private static final int NO_SUCH_SORT = -2;
    private static final int COUNTY_SORT = 0;
    private static final int LAW_SORT = 1;
    private static final int MOST_MONTHS = 60;
    private static final int MOST_PLAN_MONTHS = 24;
    private static final int MOST_KEPT_MONTHS = 12;
    private static final int MOST_TAX_ASKED = 99;
    private static final int MOST_FEVER = 99;
    private static final int DRAW_OF = 100;
    private static final long DRAW_TIMES = 6364136223846793005L;
    private static final long DRAW_PLUS = 1442695040888963407L;

    private final Tape tape;
    private final County now;
    /** A county to try things on; nothing in it is kept from one call to the next. */
    private final County trial;
    private final CountyReader countyReader;
    private final LawReader lawReader;
    private final LawBook laws;
    private final Past past;
    private final Survey survey;
    private final Foresight foresight;
    private int feverOdds;
    private long lot;

    public CountRule() {
        tape = new Tape();
        now = new County();
        trial = new County();
        countyReader = new CountyReader(tape);
        lawReader = new LawReader(tape);
        laws = new LawBook();
        past = new Past();
        survey = new Survey(now);
        foresight = new Foresight(now, trial, laws);
    }

    // ---- the tape and what is told on it

    public int feed(int a, int b, int c, int d, int e) {
        int fresh = Tape.filled(a) + Tape.filled(b) + Tape.filled(c) + Tape.filled(d) + Tape.filled(e);
        if (tape.size() + fresh > Tape.ROOM) {
            return NONE;
        }
        tape.add(a);
        tape.add(b);
        tape.add(c);
        tape.add(d);
        tape.add(e);
        return tape.size();
    }

    public boolean end(int n) {
        if (n < 0 || n > tape.size()) {
            return false;
        }
        tape.cut(n);
        return true;
    }

    public int fault(int sort) {
        if (sort == COUNTY_SORT) {
            return countyReader.read(trial);
        }
        return sort == LAW_SORT ? lawReader.read() : NO_SUCH_SORT;
    }

    public int text(int sort) {
        if (sort == COUNTY_SORT && countyReader.read(trial) == NONE) {
            now.become(trial);
            past.forgetAll();
            tape.cut(0);
            return now.children();
        }
        if (sort == LAW_SORT && laws.hasRoom() && lawReader.read() == NONE) {
            tape.cut(0);
            return laws.enact(lawReader);
        }
        return NONE;
    }

    // ---- what is so

    public int child(int child, int what) throws NoSuchElementException {
        if (!now.hasChild(child) || what < 0 || what > 11) {
            throw new NoSuchElementException();
        }
        if (what == 10) {
            return now.countOf(child);
        }
        return what == 11 ? laws.taxOf(now, child, laws.holding()) : now.kid(child, what);
    }

    public int elder(int elder, int what) {
        return now.hasElder(elder) && what >= 0 && what < County.ELDER_WIDTH ? now.old(elder, what) : NONE;
    }

    public int rule(int what) {
        return now.isTold() && what >= 0 && what < County.RULE_WIDTH ? now.cell(County.GROWS + what) : NONE;
    }

    public boolean law(int law) {
        return laws.letHold(law);
    }

    public boolean fever(int v) {
        if (v < 0 || v > MOST_FEVER || v == feverOdds) {
            return false;
        }
        feverOdds = v;
        return true;
    }

    public int passes(int child, int elder) {
        if (!now.hasChild(child) || !now.hasElder(elder)) {
            return NONE;
        }
        return now.stands(child, elder) ? 1 : 0;
    }

    public int slips(int child, int elder) {
        return now.hasChild(child) && now.hasElder(elder) ? now.wants(child, elder) : NONE;
    }

    public int examiner() {
        return now.trier();
    }

    public int log(int i, int what) {
        if (i < 0 || i >= past.logLength(now) || what < 0 || what >= Past.LOG_WIDTH) {
            return HIDDEN;
        }
        return past.logged(now.cell(County.MONTH) - i, what);
    }

    public int count(int what) {
        switch (what) {
            case 0: return now.children();
            case 1: return now.elders();
            case 2: return laws.size();
            case 3: return tape.size();
            case 4: return laws.holding();
            case 5: return now.cell(County.MONTH);
            case 6: return now.ruler();
            case 7: return now.cell(County.TREASURY);
            case 8: return feverOdds;
            case 9: return now.ruler() == NONE ? 0 : now.countOf(now.ruler());
            case 10: return past.logLength(now);
            case 11: return past.acts();
            default: return HIDDEN;
        }
    }

    // ---- acts

    public int teach(int child, int ten) {
        if (!hasChildAndTen(child, ten) || now.kid(child, County.LESSON) != NONE) {
            return NONE;
        }
        if (now.bit(child, County.KEPT, ten) || now.isRight(child, ten)) {
            return NONE;
        }
        past.remember(now);
        now.beginLesson(child, ten);
        return past.acts();
    }

    public int wrong(int child, int ten) {
        if (!hasChildAndTen(child, ten) || now.bit(child, County.WRONG, ten)) {
            return NONE;
        }
        past.remember(now);
        now.setBit(child, County.WRONG, ten, true);
        return past.acts();
    }

    public int keep(int child, int ten, boolean is) {
        if (!hasChildAndTen(child, ten) || now.bit(child, County.KEPT, ten) == is) {
            return NONE;
        }
        past.remember(now);
        now.setKept(child, ten, is);
        return past.acts();
    }

    public int buy(int child, int ten) {
        if (!hasChildAndTen(child, ten) || now.isRight(child, ten)) {
            return NONE;
        }
        int left = now.cell(County.TREASURY) - now.cell(County.PRICE);
        if (left < 0) {
            return NONE;
        }
        past.remember(now);
        now.put(County.TREASURY, left);
        now.makeRight(child, ten);
        return left;
    }

    public int months(int n) {
        if (!now.isTold() || n < 1 || n > MOST_MONTHS) {
            return NONE;
        }
        for (int i = 0; i < n; i++) {
            liveMonth(false);
        }
        return now.cell(County.MONTH);
    }

    public int fevers(int n, long seed) {
        if (!now.isTold() || n < 1 || n > MOST_MONTHS) {
            return NONE;
        }
        lot = seed;
        for (int i = 0; i < n; i++) {
            liveMonth(true);
        }
        return now.cell(County.MONTH);
    }

    public int undo() {
        if (past.acts() == 0) {
            return NONE;
        }
        past.recall(now);
        return past.acts();
    }

    public int image() {
        if (!now.isTold()) {
            return NONE;
        }
        past.paint(now);
        return now.cell(County.MONTH);
    }

    public int back() {
        if (!past.hasImage()) {
            return NONE;
        }
        past.restore(now);
        return now.cell(County.MONTH);
    }

    private void liveMonth(boolean feverish) {
        past.remember(now);
        now.beginMonth();
        if (feverish) {
            spreadFever();
        }
        int trier = now.trier();
        now.crown(trier);
        int paid = now.ruler() == NONE ? 0 : laws.taxOf(now, now.ruler(), laws.holding());
        now.reignAndTake(paid);
        past.write(now, trier, paid);
    }

    private void spreadFever() {
        for (int child = 0; child < now.children(); child++) {
            if (draw(DRAW_OF) < feverOdds) {
                now.setBit(child, County.KNOWS, County.FEVER_TEN, false);
            }
        }
    }

    private int draw(int of) {
        lot = lot * DRAW_TIMES + DRAW_PLUS;
        return of > 0 ? (int) ((lot >>> 33) % of) : 0;
    }

    // ---- what is ahead

    public int ahead(int n, int what) {
        if (!now.isTold() || n < 0 || n > MOST_MONTHS || !isOneOfTwo(what)) {
            return HIDDEN;
        }
        foresight.goOn(n, laws.holding());
        return what == 0 ? trial.ruler() : trial.cell(County.TREASURY);
    }

    public int reign(int whose, int n, int what) {
        if (!now.isTold() || n < 1 || n > MOST_MONTHS || !isOneOfTwo(what)) {
            return NONE;
        }
        if (what == 0) {
            return now.hasChild(whose) ? foresight.reignOfChild(whose, n) : NONE;
        }
        return County.isNursery(whose) ? foresight.reignOfNursery(whose, n) : NONE;
    }

    public int plan(int child, int n, int what) {
        if (!now.hasChild(child) || n < 1 || n > MOST_PLAN_MONTHS || what < 0 || what > 2) {
            return HIDDEN;
        }
        if (now.kid(child, County.LESSON) != NONE) {
            return HIDDEN;
        }
        foresight.seekRow(child, n);
        if (what == 0) {
            return foresight.bestRow();
        }
        return what == 1 ? foresight.bestMonths() : foresight.bestLength();
    }

    public int keepers(int child, int ten, int n) {
        if (!hasChildAndTen(child, ten) || n < 1 || n > MOST_KEPT_MONTHS) {
            return NONE;
        }
        return foresight.fewestKept(child, ten, n);
    }

    public int duel(int one, int other, int first, int second) {
        if (!areTwoNurseries(one, other) || !now.isOfNursery(first, one) || !now.isOfNursery(second, other)) {
            return HIDDEN;
        }
        return foresight.gain(first, second);
    }

    public int rests(int one, int other, int i) {
        if (!now.isTold() || !areTwoNurseries(one, other) || i < NONE) {
            return NONE;
        }
        foresight.weighAll(one, other);
        return foresight.restAt(one, other, i);
    }

    public int late() {
        return now.isTold() ? foresight.monthsOfTrials(MOST_MONTHS) : NONE;
    }

    public int richest(int n, int what) {
        if (!now.isTold() || n < 1 || n > MOST_PLAN_MONTHS || !isOneOfTwo(what)) {
            return HIDDEN;
        }
        foresight.seekLaw(n);
        return what == 0 ? foresight.bestLaw() : foresight.bestTreasury();
    }

    // ---- what is told by what is so

    public int plums(int child) {
        int trier = now.trier();
        return trier == NONE || !now.hasChild(child) ? NONE : now.plumsToStand(child, trier);
    }

    public int peace(int nursery, int what) {
        int trier = now.trier();
        if (trier == NONE || !County.isNursery(nursery) || !isOneOfTwo(what)) {
            return NONE;
        }
        int who = survey.cheapest(nursery, trier);
        return who == NONE || what == 1 ? who : now.plumsToRule(who, trier);
    }

    public int teachers(int child, int i) {
        return now.hasChild(child) && i >= NONE ? survey.teachersAt(child, i) : NONE;
    }

    public int spans(int child, int v) {
        if (!now.hasChild(child) || v < 0 || v > MOST_TAX_ASKED) {
            return NONE;
        }
        int bits = 0;
        for (int tens = 0; tens <= County.TENS; tens++) {
            if (laws.taxAtCount(now, child, tens) == v) {
                bits |= 1 << tens;
            }
        }
        return bits;
    }

    public int chain(int what) {
        if (!now.isTold() || !isOneOfTwo(what)) {
            return NONE;
        }
        int who = survey.longestChain();
        return what == 0 ? Integer.bitCount(who) : who;
    }

    public int threes() {
        int trier = now.trier();
        return trier == NONE ? NONE : survey.onlyByTheirSteps(trier);
    }

    public int party(int nursery) {
        return now.isTold() && County.isNursery(nursery) ? survey.rightInNursery(nursery) : NONE;
    }

    public int heir() {
        int trier = now.trier();
        return trier == NONE ? NONE : now.claimant(now.askedBy(trier), now.ruler());
    }

    public int before(int child) {
        return now.hasChild(child) ? survey.eldersSatisfied(child) : NONE;
    }

    public int without(int child) {
        return now.hasChild(child) ? survey.fewestAbsent(child) : NONE;
    }

    public int spoil(int child) {
        int trier = now.trier();
        if (trier == NONE || !now.hasChild(child) || !now.stands(child, trier)) {
            return NONE;
        }
        return County.lowestTen(now.askedOf(child, now.askedBy(trier)));
    }

    public int soon(int child) {
        int trier = now.trier();
        return trier == NONE || !now.hasChild(child) ? NONE : now.monthsToStand(child, trier);
    }

    public int fevered() {
        int trier = now.trier();
        return trier == NONE ? NONE : survey.standingFevered(trier);
    }

    public int youngest(int i) {
        return survey.inOrderOfAge(i);
    }

    public int rivals(int child) {
        int trier = now.trier();
        return trier == NONE || !now.hasChild(child) ? NONE : survey.youngerStanding(child, trier);
    }

    public int forgotten() {
        return now.isTold() ? survey.unknownToElders() : NONE;
    }

    private boolean hasChildAndTen(int child, int ten) {
        return now.hasChild(child) && ten >= 0 && ten < County.TENS;
    }

    private static boolean isOneOfTwo(int what) {
        return what == 0 || what == 1;
    }

    private static boolean areTwoNurseries(int one, int other) {
        return County.isNursery(one) && County.isNursery(other) && one != other;
    }

    /** The bytes that were fed and not yet read as a county or a law. */
    private static final class Tape {
        static final int ROOM = 240;

        private final int[] bytes;
        private int size;

        Tape() {
            bytes = new int[ROOM];
        }

        static int filled(int word) {
            int filled = 0;
            for (int shift = 24; shift >= 0; shift -= 8) {
                if ((word >>> shift & 255) != 0) {
                    filled++;
                }
            }
            return filled;
        }

        void add(int word) {
            for (int shift = 24; shift >= 0; shift -= 8) {
                int sign = word >>> shift & 255;
                if (sign != 0 && size < bytes.length) {
                    bytes[size] = sign;
                    size++;
                }
            }
        }

        void cut(int n) {
            size = n;
        }

        int size() {
            return size;
        }

        int at(int place) {
            return place >= 0 && place < size && place < bytes.length ? bytes[place] : NONE;
        }
    }

    /** Goes along the tape sign by sign and keeps the first place at which it can't go on. */
    private static final class Cursor {
        private final Tape tape;
        private int place;
        private int wrongAt;

        Cursor(Tape tape) {
            this.tape = tape;
        }

        void begin() {
            place = 0;
            wrongAt = NONE;
        }

        int wrongAt() {
            return wrongAt;
        }

        boolean hasFailed() {
            return wrongAt != NONE;
        }

        /** The first fault is the one that counts, so a later one does not replace it. */
        void failAt(int where) {
            if (wrongAt == NONE) {
                wrongAt = where;
            }
        }

        void fail() {
            failAt(place);
        }

        void failAtLastDigit() {
            failAt(place - 1);
        }

        /** The next sign that is no blank; NONE at the end and behind a fault, so that readers stop there. */
        int peek() {
            if (hasFailed()) {
                return NONE;
            }
            while (place < tape.size() && tape.at(place) == ' ') {
                place++;
            }
            return tape.at(place);
        }

        void step() {
            place++;
        }

        boolean takes(char sign) {
            if (peek() != sign) {
                return false;
            }
            step();
            return true;
        }

        void needs(char sign) {
            if (peek() == sign) {
                step();
            } else {
                fail();
            }
        }

        void needsEnd() {
            if (peek() != NONE) {
                fail();
            }
        }

        static boolean isDigit(int sign) {
            return sign >= '0' && sign <= '9';
        }

        int number(int mostDigits) {
            if (!isDigit(peek())) {
                fail();
                return 0;
            }
            int value = 0;
            for (int digits = 0; digits < mostDigits && isDigit(tape.at(place)); digits++) {
                value = value * 10 + tape.at(place) - '0';
                place++;
            }
            if (isDigit(tape.at(place))) {
                fail();
            }
            return value;
        }
    }

    /** Reads the tape as the text of a county. */
    private static final class CountyReader {
        private static final String CHILD_LETTERS = "akwnsy";
        private static final int[] CHILD_LEAST = {0, 0, 0, 0, 1, 1};
        private static final int[] CHILD_MOST = {99, 9, 9, 4, 9, 3};
        private static final int[] CHILD_USUAL = {40, 0, 9, 0, 2, 1};
        private static final String ELDER_LETTERS = "afk";
        private static final int[] ELDER_LEAST = {0, 0, 0};
        private static final int[] ELDER_MOST = {99, 9, 9};
        private static final int[] ELDER_USUAL = {70, 0, 9};
        private static final String RULE_LETTERS = "gup";
        private static final int[] RULE_LEAST = {1, 1, 0};
        private static final int[] RULE_MOST = {99, 9, 9};
        private static final int[] RULE_USUAL = {90, 9, 1};
        private static final int MOST_ITEMS = 6;
        private static final int MOST_DIGITS = 2;

        private final Cursor cursor;
        private final int[] items;
        private boolean ruleTold;

        CountyReader(Tape tape) {
            cursor = new Cursor(tape);
            items = new int[MOST_ITEMS];
        }

        /** The fault, or NONE; without one the county is the one that is told. */
        int read(County county) {
            cursor.begin();
            county.clear();
            ruleTold = false;
            useUsual(RULE_USUAL);
            county.setRule(items[0], items[1], items[2]);
            readClause(county);
            for (int i = 0; i < Tape.ROOM && cursor.takes(';'); i++) {
                readClause(county);
            }
            cursor.needsEnd();
            if (county.children() == 0) {
                cursor.fail();
            }
            return cursor.wrongAt();
        }

        private void readClause(County county) {
            int sign = cursor.peek();
            if (sign == 'c' && county.children() < County.MOST_CHILDREN) {
                readItems(CHILD_LETTERS, CHILD_LEAST, CHILD_MOST, CHILD_USUAL);
                county.addChild(items);
            } else if (sign == 'e' && county.elders() < County.MOST_ELDERS) {
                readItems(ELDER_LETTERS, ELDER_LEAST, ELDER_MOST, ELDER_USUAL);
                county.addElder(items[0], items[1], items[2]);
            } else if (sign == 'r' && !ruleTold) {
                readItems(RULE_LETTERS, RULE_LEAST, RULE_MOST, RULE_USUAL);
                county.setRule(items[0], items[1], items[2]);
                ruleTold = true;
            } else {
                cursor.fail();
            }
        }

        private void useUsual(int[] usual) {
            for (int i = 0; i < usual.length && i < items.length; i++) {
                items[i] = usual[i];
            }
        }

        private void readItems(String letters, int[] least, int[] most, int[] usual) {
            cursor.step();
            useUsual(usual);
            int told = 0;
            for (int i = 0; i <= letters.length(); i++) {
                int sign = cursor.peek();
                int item = sign < 0 ? NONE : letters.indexOf((char) sign);
                if (item < 0 || item >= items.length || item >= least.length || item >= most.length) {
                    return;
                }
                if ((told >> item & 1) != 0) {
                    cursor.fail();
                    return;
                }
                told |= 1 << item;
                cursor.step();
                items[item] = cursor.number(MOST_DIGITS);
                if (items[item] < least[item] || items[item] > most[item]) {
                    cursor.failAtLastDigit();
                }
            }
        }
    }

    /** Reads the tape as a law and turns it into signs in the order in which they are reckoned. */
    private static final class LawReader {
        /** Numbers of a law have four digits at most: what stands above them is a sign. */
        static final int SIGN = 10000;
        static final String LETTERS = "caknmw";

        private static final int MOST_WITHIN = 6;
        private static final int MOST_DIGITS = 4;

        private final Cursor cursor;
        private final int[] code;
        private int length;

        LawReader(Tape tape) {
            cursor = new Cursor(tape);
            code = new int[Tape.ROOM];
        }

        int length() {
            return length;
        }

        int codeAt(int i) {
            return i >= 0 && i < code.length ? code[i] : 0;
        }

        /** The fault, or NONE; without one the code is the law's. */
        int read() {
            cursor.begin();
            length = 0;
            readClause();
            for (int i = 0; i < Tape.ROOM && cursor.takes(';'); i++) {
                readClause();
            }
            cursor.needsEnd();
            return cursor.wrongAt();
        }

        private void write(int value) {
            if (length < code.length) {
                code[length] = value;
                length++;
            }
        }

        private void writeSign(int sign) {
            write(SIGN + sign);
        }

        private void readClause() {
            cursor.needs('y');
            cursor.needs(':');
            if (readCondition(0, true)) {
                cursor.needs('?');
                writeSign('?');
                readSum(0);
            }
            writeSign(';');
        }

        /**
         * Only behind the signs of a whole sum is it told whether a clause has a condition: where
         * sumToo allows it, a sum alone is read as well, and the answer is false then.
         */
        private boolean readCondition(int within, boolean sumToo) {
            if (!readTruth(within, sumToo)) {
                return false;
            }
            for (int i = 0; i < Tape.ROOM && cursor.takes('|'); i++) {
                readTruth(within, false);
                writeSign('|');
            }
            return true;
        }

        private boolean readTruth(int within, boolean sumToo) {
            if (!readUnit(within, sumToo)) {
                return false;
            }
            for (int i = 0; i < Tape.ROOM && cursor.takes('&'); i++) {
                readUnit(within, false);
                writeSign('&');
            }
            return true;
        }

        private boolean readUnit(int within, boolean sumToo) {
            int sign = cursor.peek();
            if (sign == '!' || sign == '(') {
                if (goesDeeper(within)) {
                    readInnerUnit(within + 1, sign);
                }
                return true;
            }
            readSum(within);
            int compares = cursor.peek();
            if (compares == '=' || compares == '<' || compares == '>') {
                cursor.step();
                readSum(within);
                writeSign(compares);
                return true;
            }
            if (!sumToo) {
                cursor.fail();
            }
            return false;
        }

        private void readInnerUnit(int within, int sign) {
            if (sign == '!') {
                readUnit(within, false);
                writeSign('!');
            } else {
                readCondition(within, false);
                cursor.needs(')');
            }
        }

        private boolean goesDeeper(int within) {
            if (within >= MOST_WITHIN) {
                cursor.fail();
                return false;
            }
            cursor.step();
            return true;
        }

        private void readSum(int within) {
            readTerm(within);
            for (int i = 0; i < Tape.ROOM && isEither('+', '-'); i++) {
                int sign = cursor.peek();
                cursor.step();
                readTerm(within);
                writeSign(sign);
            }
        }

        private void readTerm(int within) {
            readAtom(within);
            for (int i = 0; i < Tape.ROOM && isEither('*', '/'); i++) {
                int sign = cursor.peek();
                cursor.step();
                readAtom(within);
                writeSign(sign);
            }
        }

        private boolean isEither(char one, char other) {
            int sign = cursor.peek();
            return sign == one || sign == other;
        }

        private void readAtom(int within) {
            int sign = cursor.peek();
            if (sign == '[') {
                if (goesDeeper(within)) {
                    readSum(within + 1);
                    cursor.needs(']');
                }
            } else if (sign >= 0 && LETTERS.indexOf((char) sign) >= 0) {
                cursor.step();
                writeSign(sign);
            } else {
                write(cursor.number(MOST_DIGITS));
            }
        }
    }

    /** One law as its reader wrote it, and what it is worth for given letters. */
    private static final class Law {
        private static final int BOUND = 1000000;
        /** Six within one another leave at most two numbers waiting at each of eight depths, and two more. */
        private static final int MOST_WAITING = 18;

        private final int[] code;
        private final int[] waiting;
        private int top;

        Law(LawReader reader) {
            code = new int[Math.max(0, reader.length())];
            for (int i = 0; i < code.length; i++) {
                code[i] = reader.codeAt(i);
            }
            waiting = new int[MOST_WAITING];
        }

        int worth(int[] letters) {
            top = 0;
            for (int i = 0; i < code.length; i++) {
                int sign = code[i] - LawReader.SIGN;
                if (sign == ';') {
                    return pop();
                }
                int letter = sign < 0 ? NONE : LawReader.LETTERS.indexOf((char) sign);
                if (sign < 0) {
                    push(code[i]);
                } else if (letter >= 0 && letter < letters.length) {
                    push(letters[letter]);
                } else if (sign == '?') {
                    i = pop() == 0 ? endOfClause(i) : i;
                } else if (sign == '!') {
                    push(1 - pop());
                } else {
                    int second = pop();
                    push(reckon(pop(), sign, second));
                }
            }
            return 0;
        }

        private int endOfClause(int from) {
            for (int i = from; i < code.length; i++) {
                if (code[i] == LawReader.SIGN + ';') {
                    return i;
                }
            }
            return code.length;
        }

        private void push(int value) {
            if (top < waiting.length) {
                waiting[top] = value;
                top++;
            }
        }

        private int pop() {
            if (top <= 0 || top > waiting.length) {
                return 0;
            }
            top--;
            return waiting[top];
        }

        private static int reckon(int first, int sign, int second) {
            switch (sign) {
                case '+': return held((long) first + second);
                case '-': return held((long) first - second);
                case '*': return held((long) first * second);
                case '/': return second == 0 ? 0 : held((long) first / second);
                case '=': return first == second ? 1 : 0;
                case '<': return first < second ? 1 : 0;
                case '>': return first > second ? 1 : 0;
                case '&': return first & second;
                case '|': return first | second;
                default: return 0;
            }
        }

        private static int held(long value) {
            return (int) Math.max(-BOUND, Math.min(BOUND, value));
        }
    }

    /** The laws, which of them holds, and the taxes by them. */
    private static final class LawBook {
        private static final int MOST_LAWS = 4;

        private final Law[] laws;
        /** What the letters c a k n m w stand for while a law is reckoned. */
        private final int[] letters;
        private int size;
        private int holding;

        LawBook() {
            laws = new Law[MOST_LAWS];
            letters = new int[6];
            holding = NONE;
        }

        int size() {
            return size;
        }

        int holding() {
            return holding;
        }

        boolean hasRoom() {
            return size < MOST_LAWS;
        }

        int enact(LawReader reader) {
            if (size < 0 || size >= laws.length) {
                return NONE;
            }
            laws[size] = new Law(reader);
            size++;
            return size - 1;
        }

        boolean letHold(int law) {
            if (law < NONE || law >= size) {
                return false;
            }
            holding = law;
            return true;
        }

        int taxOf(County county, int child, int law) {
            int right = county.rightOf(child);
            int count = county.countOf(child);
            setLetters(county, child, count, Integer.bitCount(right));
            letters[5] = Integer.bitCount(county.kid(child, County.WRONG));
            return taxBy(law, count);
        }

        /** The tax if the child counted just so many tens, with none of them and no other wrong. */
        int taxAtCount(County county, int child, int tens) {
            setLetters(county, child, tens * 10, tens);
            letters[5] = 0;
            return taxBy(holding, tens * 10);
        }

        private void setLetters(County county, int child, int count, int right) {
            letters[0] = count;
            letters[1] = county.kid(child, County.AGE);
            letters[2] = right;
            letters[3] = county.kid(child, County.NURSERY);
            letters[4] = county.cell(County.MONTH);
        }

        private int taxBy(int law, int count) {
            if (law < 0 || law >= laws.length || laws[law] == null) {
                return count;
            }
            return Math.max(0, Math.min(count, laws[law].worth(letters)));
        }
    }

    /** All that a county is at one time, in one row of numbers so that it is copied at once. */
    private static final class County {
        static final int MOST_CHILDREN = 8;
        static final int MOST_ELDERS = 4;
        static final int MOST_NURSERY = 4;
        static final int TENS = 9;
        static final int ALL_TENS = 511;
        static final int FEVER_TEN = 7;

        // what is known of a child, numbered as the call child numbers it
        static final int AGE = 0;
        static final int KNOWS = 1;
        static final int WRONG = 2;
        static final int NURSERY = 3;
        static final int SLOW = 4;
        static final int STEP = 5;
        static final int LESSON = 6;
        static final int LEFT = 7;
        static final int KEPT = 8;
        static final int RULED = 9;
        static final int CHILD_WIDTH = 10;

        // what is known of an elder, numbered as the call elder numbers it
        static final int YEARS = 0;
        static final int FORGETS = 1;
        static final int MINDS = 2;
        static final int ELDER_WIDTH = 3;

        // where the cells stand behind those of the children
        static final int FIRST_ELDER = MOST_CHILDREN * CHILD_WIDTH;
        static final int GROWS = FIRST_ELDER + MOST_ELDERS * ELDER_WIDTH;
        static final int TRIED_TO = GROWS + 1;
        static final int PRICE = GROWS + 2;
        static final int RULE_WIDTH = 3;
        static final int CHILDREN = GROWS + RULE_WIDTH;
        static final int ELDERS = CHILDREN + 1;
        static final int MONTH = CHILDREN + 2;
        static final int RULER = CHILDREN + 3;
        static final int TREASURY = CHILDREN + 4;
        static final int SIZE = CHILDREN + 5;

        private static final int BY_TWOS = 0b101010101;
        private static final int BY_THREES = 0b001001001;

        private final int[] cells;

        County() {
            cells = new int[SIZE];
            cells[RULER] = NONE;
        }

        // -- cells

        int cell(int place) {
            return place >= 0 && place < cells.length ? cells[place] : 0;
        }

        void put(int place, int value) {
            if (place >= 0 && place < cells.length) {
                cells[place] = value;
            }
        }

        int kid(int child, int what) {
            int place = child * CHILD_WIDTH + what;
            return place >= 0 && place < cells.length ? cells[place] : 0;
        }

        void putKid(int child, int what, int value) {
            int place = child * CHILD_WIDTH + what;
            if (place >= 0 && place < cells.length) {
                cells[place] = value;
            }
        }

        int old(int elder, int what) {
            int place = FIRST_ELDER + elder * ELDER_WIDTH + what;
            return place >= 0 && place < cells.length ? cells[place] : 0;
        }

        void putOld(int elder, int what, int value) {
            int place = FIRST_ELDER + elder * ELDER_WIDTH + what;
            if (place >= 0 && place < cells.length) {
                cells[place] = value;
            }
        }

        int children() {
            return cells[CHILDREN];
        }

        int elders() {
            return cells[ELDERS];
        }

        int ruler() {
            return cells[RULER];
        }

        void become(County other) {
            System.arraycopy(other.cells, 0, cells, 0, SIZE);
        }

        void copyTo(int[] row, int from) {
            if (from >= 0 && from <= row.length - SIZE) {
                System.arraycopy(cells, 0, row, from, SIZE);
            }
        }

        void copyFrom(int[] row, int from) {
            if (from >= 0 && from <= row.length - SIZE) {
                System.arraycopy(row, from, cells, 0, SIZE);
            }
        }

        // -- as it is told

        void clear() {
            for (int i = 0; i < cells.length; i++) {
                cells[i] = 0;
            }
            cells[RULER] = NONE;
        }

        void setRule(int grows, int triedTo, int price) {
            cells[GROWS] = grows;
            cells[TRIED_TO] = triedTo;
            cells[PRICE] = price;
        }

        /** The items stand as in the text: a k w n s y. */
        void addChild(int[] items) {
            int child = cells[CHILDREN];
            if (child >= MOST_CHILDREN || items.length < 6) {
                return;
            }
            putKid(child, AGE, items[0]);
            putKid(child, KNOWS, fromBelow(items[1]));
            putKid(child, WRONG, items[2] < TENS ? 1 << items[2] : 0);
            putKid(child, NURSERY, items[3]);
            putKid(child, SLOW, items[4]);
            putKid(child, STEP, items[5]);
            putKid(child, LESSON, NONE);
            cells[CHILDREN] = child + 1;
        }

        void addElder(int years, int forgets, int tens) {
            int elder = cells[ELDERS];
            if (elder >= MOST_ELDERS) {
                return;
            }
            putOld(elder, YEARS, years);
            putOld(elder, FORGETS, forgets);
            putOld(elder, MINDS, fromBelow(tens));
            cells[ELDERS] = elder + 1;
        }

        static int fromBelow(int tens) {
            return (1 << tens) - 1;
        }

        // -- who is there

        boolean isTold() {
            return cells[CHILDREN] > 0;
        }

        boolean hasChild(int child) {
            return child >= 0 && child < cells[CHILDREN];
        }

        boolean hasElder(int elder) {
            return elder >= 0 && elder < cells[ELDERS];
        }

        static boolean isNursery(int nursery) {
            return nursery >= 0 && nursery <= MOST_NURSERY;
        }

        boolean isOfNursery(int child, int nursery) {
            return hasChild(child) && kid(child, NURSERY) == nursery;
        }

        boolean isBelowGrowing(int child) {
            return kid(child, AGE) < cells[GROWS];
        }

        boolean isYounger(int child, int other) {
            return kid(child, AGE) < kid(other, AGE);
        }

        /** Of several of one age the lowest goes first. */
        boolean goesFirst(int child, int other) {
            return isYounger(child, other) || kid(child, AGE) == kid(other, AGE) && child < other;
        }

        // -- tens

        boolean bit(int child, int what, int ten) {
            return (kid(child, what) >> ten & 1) != 0;
        }

        void setBit(int child, int what, int ten, boolean is) {
            int others = kid(child, what) & ~(1 << ten);
            putKid(child, what, is ? others | 1 << ten : others);
        }

        int rightOf(int child) {
            return kid(child, KNOWS) & ~kid(child, WRONG);
        }

        boolean isRight(int child, int ten) {
            return (rightOf(child) >> ten & 1) != 0;
        }

        void makeRight(int child, int ten) {
            putKid(child, KNOWS, kid(child, KNOWS) | 1 << ten);
            putKid(child, WRONG, kid(child, WRONG) & ~(1 << ten));
        }

        static int lowestTen(int tens) {
            for (int ten = 0; ten < TENS; ten++) {
                if ((tens >> ten & 1) != 0) {
                    return ten;
                }
            }
            return NONE;
        }

        int lowestNotRight(int child) {
            return lowestTen(~rightOf(child));
        }

        int countOf(int child) {
            int ten = lowestNotRight(child);
            return 10 * (ten == NONE ? TENS : ten);
        }

        void beginLesson(int child, int ten) {
            putKid(child, LESSON, ten);
            putKid(child, LEFT, kid(child, SLOW));
        }

        private void endLesson(int child) {
            putKid(child, LESSON, NONE);
            putKid(child, LEFT, 0);
        }

        void setKept(int child, int ten, boolean is) {
            setBit(child, KEPT, ten, is);
            if (is && kid(child, LESSON) == ten) {
                endLesson(child);
            }
        }

        // -- trials

        int triedTens() {
            return (1 << cells[TRIED_TO]) - 1;
        }

        /** What an elder asks of those who count by ones. */
        int askedBy(int elder) {
            return old(elder, MINDS) & triedTens();
        }

        private static int byStep(int tens, int step) {
            if (step == 2) {
                return tens & BY_TWOS;
            }
            return step == 3 ? tens & BY_THREES : tens;
        }

        int askedOf(int child, int tens) {
            return byStep(tens, kid(child, STEP));
        }

        /** Where the child slips, if these tens are asked. */
        int lacks(int child, int tens) {
            return byStep(tens, kid(child, STEP)) & (~kid(child, KNOWS) | kid(child, WRONG));
        }

        int wants(int child, int elder) {
            return lacks(child, askedBy(elder));
        }

        boolean stands(int child, int elder) {
            return wants(child, elder) == 0;
        }

        int trier() {
            return trierWithout(0);
        }

        int trierWithout(int absent) {
            int trier = NONE;
            for (int elder = 0; elder < cells[ELDERS]; elder++) {
                boolean tries = (absent >> elder & 1) == 0 && askedBy(elder) != 0;
                if (tries && (trier == NONE || old(elder, YEARS) > old(trier, YEARS))) {
                    trier = elder;
                }
            }
            return trier;
        }

        int plumsToStand(int child, int trier) {
            return cells[PRICE] * Integer.bitCount(wants(child, trier));
        }

        int plumsToRule(int child, int trier) {
            return child == cells[RULER] ? 0 : plumsToStand(child, trier);
        }

        int monthsToStand(int child, int trier) {
            int wanted = wants(child, trier);
            if (wanted == 0) {
                return 0;
            }
            int lesson = kid(child, LESSON);
            int others = lesson == NONE ? wanted : wanted & ~(1 << lesson);
            return kid(child, LEFT) + kid(child, SLOW) * Integer.bitCount(others);
        }

        // -- a month

        /** What comes ahead of the ruler: all are older, elders forget, lessons go on. */
        void beginMonth() {
            int month = cells[MONTH] + 1;
            cells[MONTH] = month;
            for (int elder = 0; elder < cells[ELDERS]; elder++) {
                int forgets = old(elder, FORGETS);
                if (forgets > 0 && month % forgets == 0) {
                    // elders know tens from below, so what is left without the highest is half
                    putOld(elder, MINDS, old(elder, MINDS) >> 1);
                }
            }
            for (int child = 0; child < cells[CHILDREN]; child++) {
                putKid(child, AGE, kid(child, AGE) + 1);
                if (kid(child, LESSON) != NONE) {
                    goOnWithLesson(child);
                }
            }
        }

        private void goOnWithLesson(int child) {
            int left = kid(child, LEFT) - 1;
            if (left > 0) {
                putKid(child, LEFT, left);
            } else {
                makeRight(child, kid(child, LESSON));
                endLesson(child);
            }
        }

        /** The youngest (but one who is left out) who stands, if these tens are asked, and has not grown out. */
        int claimant(int tens, int but) {
            int claimant = NONE;
            for (int child = 0; child < cells[CHILDREN]; child++) {
                boolean may = child != but && isBelowGrowing(child) && lacks(child, tens) == 0;
                if (may && (claimant == NONE || isYounger(child, claimant))) {
                    claimant = child;
                }
            }
            return claimant;
        }

        /** Who rules behind the ruler, so many months from these ages, if the claimant is the youngest who may. */
        int rulerBehind(int ruler, int claimant, int months) {
            boolean stays = ruler != NONE && kid(ruler, AGE) + months < cells[GROWS];
            if (stays && (claimant == NONE || !isYounger(claimant, ruler))) {
                return ruler;
            }
            return claimant;
        }

        void crown(int trier) {
            int claimant = trier == NONE ? NONE : claimant(askedBy(trier), NONE);
            cells[RULER] = rulerBehind(cells[RULER], claimant, 0);
        }

        void reignAndTake(int paid) {
            int ruler = cells[RULER];
            if (ruler != NONE) {
                putKid(ruler, RULED, kid(ruler, RULED) + 1);
            }
            cells[TREASURY] += paid;
        }
    }

    /** What was: the acts that can be undone, the log, an image. */
    private static final class Past {
        static final int LOG_WIDTH = 3;

        private static final int MOST_ACTS = 40;
        private static final int LOG_SHOWN = 60;
        /** Undoing the latest acts shows older rows again, so that many more are kept. */
        private static final int LOG_KEPT = LOG_SHOWN + MOST_ACTS;

        private final int[] states;
        private final int[] log;
        private final int[] paintedState;
        private final int[] paintedLog;
        private int next;
        private int acts;
        private boolean painted;

        Past() {
            states = new int[MOST_ACTS * County.SIZE];
            log = new int[LOG_KEPT * LOG_WIDTH];
            paintedState = new int[County.SIZE];
            paintedLog = new int[LOG_KEPT * LOG_WIDTH];
        }

        void forgetAll() {
            acts = 0;
            painted = false;
        }

        int acts() {
            return acts;
        }

        void remember(County county) {
            county.copyTo(states, next * County.SIZE);
            next = (next + 1) % MOST_ACTS;
            acts = Math.min(acts + 1, MOST_ACTS);
        }

        void recall(County county) {
            next = (next + MOST_ACTS - 1) % MOST_ACTS;
            acts--;
            county.copyFrom(states, next * County.SIZE);
        }

        /** Each month of a county is logged, so the month tells how long the log is. */
        int logLength(County county) {
            return Math.min(county.cell(County.MONTH), LOG_SHOWN);
        }

        void write(County county, int trier, int paid) {
            int row = rowOf(county.cell(County.MONTH));
            if (row >= 0 && row <= log.length - LOG_WIDTH) {
                log[row] = county.ruler();
                log[row + 1] = trier;
                log[row + 2] = paid;
            }
        }

        int logged(int month, int what) {
            int place = rowOf(month) + what;
            return place >= 0 && place < log.length ? log[place] : HIDDEN;
        }

        private static int rowOf(int month) {
            return month % LOG_KEPT * LOG_WIDTH;
        }

        void paint(County county) {
            county.copyTo(paintedState, 0);
            System.arraycopy(log, 0, paintedLog, 0, LOG_KEPT * LOG_WIDTH);
            painted = true;
        }

        boolean hasImage() {
            return painted;
        }

        void restore(County county) {
            county.copyFrom(paintedState, 0);
            System.arraycopy(paintedLog, 0, log, 0, LOG_KEPT * LOG_WIDTH);
            acts = 0;
        }
    }

    /** Looks at the county as it is now: sets of children, elders and tens as bits. */
    private static final class Survey {
        private final County now;
        private final int[] chained;

        Survey(County now) {
            this.now = now;
            chained = new int[County.MOST_CHILDREN];
        }

        int cheapest(int nursery, int trier) {
            int best = NONE;
            for (int child = 0; child < now.children(); child++) {
                if (now.isOfNursery(child, nursery) && mayRule(child)
                        && (best == NONE || now.plumsToRule(child, trier) < now.plumsToRule(best, trier))) {
                    best = child;
                }
            }
            return best;
        }

        private boolean mayRule(int child) {
            int ruler = now.ruler();
            boolean inTurn = ruler == NONE || ruler == child || now.isYounger(child, ruler);
            return inTurn && now.isBelowGrowing(child);
        }

        /** How many sets of teachers there are (i NONE), or the i-th; NONE without it. */
        int teachersAt(int child, int i) {
            int found = 0;
            for (int set = 1; set < 1 << now.elders(); set++) {
                if (couldHaveTaught(set, child)) {
                    if (found == i) {
                        return set;
                    }
                    found++;
                }
            }
            return i == NONE ? found : NONE;
        }

        private boolean couldHaveTaught(int set, int child) {
            int minded = mindedBy(set);
            return (now.rightOf(child) & ~minded) == 0 && (now.kid(child, County.WRONG) & minded) == 0;
        }

        private int mindedBy(int set) {
            int minded = 0;
            for (int elder = 0; elder < now.elders(); elder++) {
                if ((set >> elder & 1) != 0) {
                    minded |= now.old(elder, County.MINDS);
                }
            }
            return minded;
        }

        int unknownToElders() {
            return now.triedTens() & ~mindedBy((1 << now.elders()) - 1);
        }

        /** The most children of whom the older always counts further: of several sets the least. */
        int longestChain() {
            for (int child = 0; child < now.children() && child < chained.length; child++) {
                chained[child] = chainedWith(child);
            }
            int best = 0;
            for (int set = 1; set < 1 << now.children(); set++) {
                if (Integer.bitCount(set) > Integer.bitCount(best) && isChain(set)) {
                    best = set;
                }
            }
            return best;
        }

        private int chainedWith(int child) {
            int bits = 1 << child;
            for (int other = 0; other < now.children(); other++) {
                boolean older = now.isYounger(child, other) && now.countOf(child) < now.countOf(other);
                boolean younger = now.isYounger(other, child) && now.countOf(other) < now.countOf(child);
                if (older || younger) {
                    bits |= 1 << other;
                }
            }
            return bits;
        }

        private boolean isChain(int set) {
            for (int child = 0; child < chained.length; child++) {
                if ((set >> child & 1) != 0 && (set & ~chained[child]) != 0) {
                    return false;
                }
            }
            return true;
        }

        int onlyByTheirSteps(int trier) {
            int bits = 0;
            for (int child = 0; child < now.children(); child++) {
                boolean byOnes = (now.askedBy(trier) & ~now.rightOf(child)) == 0;
                if (now.stands(child, trier) && !byOnes) {
                    bits |= 1 << child;
                }
            }
            return bits;
        }

        int standingFevered(int trier) {
            int bits = 0;
            for (int child = 0; child < now.children(); child++) {
                int right = now.rightOf(child) & ~(1 << County.FEVER_TEN);
                if ((now.askedOf(child, now.askedBy(trier)) & ~right) == 0) {
                    bits |= 1 << child;
                }
            }
            return bits;
        }

        int youngerStanding(int child, int trier) {
            int bits = 0;
            for (int other = 0; other < now.children(); other++) {
                if (now.isYounger(other, child) && now.isBelowGrowing(other) && now.stands(other, trier)) {
                    bits |= 1 << other;
                }
            }
            return bits;
        }

        int rightInNursery(int nursery) {
            int tens = 0;
            for (int child = 0; child < now.children(); child++) {
                if (now.isOfNursery(child, nursery)) {
                    tens |= now.rightOf(child);
                }
            }
            return tens;
        }

        int eldersSatisfied(int child) {
            int bits = 0;
            for (int elder = 0; elder < now.elders(); elder++) {
                if (now.stands(child, elder)) {
                    bits |= 1 << elder;
                }
            }
            return bits;
        }

        int fewestAbsent(int child) {
            int best = NONE;
            for (int absent = 0; absent < 1 << now.elders(); absent++) {
                int trier = now.trierWithout(absent);
                boolean enough = trier != NONE && now.stands(child, trier);
                if (enough && (best == NONE || Integer.bitCount(absent) < Integer.bitCount(best))) {
                    best = absent;
                }
            }
            return best;
        }

        int inOrderOfAge(int i) {
            for (int child = 0; child < now.children(); child++) {
                int ahead = 0;
                for (int other = 0; other < now.children(); other++) {
                    ahead += now.goesFirst(other, child) ? 1 : 0;
                }
                if (ahead == i) {
                    return child;
                }
            }
            return NONE;
        }
    }

    /** Lives months on the trial county, from as it is now, and leaves the county itself alone. */
    private static final class Foresight {
        private static final int LONGEST_ROW = 3;
        private static final int DUEL_MONTHS = 12;

        private final County now;
        private final County trial;
        private final LawBook laws;
        private final int[] asked;
        private final int[] claims;
        private final int[] gains;
        private int bestRow;
        private int bestMonths;
        private int bestLength;
        private int bestLaw;
        private int bestTreasury;

        Foresight(County now, County trial, LawBook laws) {
            this.now = now;
            this.trial = trial;
            this.laws = laws;
            asked = new int[MOST_PLAN_MONTHS];
            claims = new int[MOST_PLAN_MONTHS];
            gains = new int[County.MOST_CHILDREN * County.MOST_CHILDREN];
        }

        int bestRow() {
            return bestRow;
        }

        int bestMonths() {
            return bestMonths;
        }

        int bestLength() {
            return bestLength;
        }

        int bestLaw() {
            return bestLaw;
        }

        int bestTreasury() {
            return bestTreasury;
        }

        void goOn(int n, int law) {
            trial.become(now);
            for (int i = 0; i < n; i++) {
                rulerOfNextMonth();
                int ruler = trial.ruler();
                trial.reignAndTake(ruler == NONE ? 0 : laws.taxOf(trial, ruler, law));
            }
        }

        /** Taxes do not change who rules: where only rulers are asked for they are left out. */
        private int rulerOfNextMonth() {
            trial.beginMonth();
            trial.crown(trial.trier());
            return trial.ruler();
        }

        int reignOfChild(int child, int n) {
            trial.become(now);
            int ruled = 0;
            for (int i = 0; i < n; i++) {
                ruled += rulerOfNextMonth() == child ? 1 : 0;
            }
            return ruled;
        }

        int reignOfNursery(int nursery, int n) {
            trial.become(now);
            int ruled = 0;
            for (int i = 0; i < n; i++) {
                ruled += trial.isOfNursery(rulerOfNextMonth(), nursery) ? 1 : 0;
            }
            return ruled;
        }

        int monthsOfTrials(int most) {
            trial.become(now);
            for (int months = 0; months <= most; months++) {
                if (trial.trier() == NONE) {
                    return months;
                }
                trial.beginMonth();
            }
            return NONE;
        }

        void seekLaw(int n) {
            bestLaw = NONE;
            goOn(n, NONE);
            bestTreasury = trial.cell(County.TREASURY);
            for (int law = 0; law < laws.size(); law++) {
                goOn(n, law);
                if (trial.cell(County.TREASURY) > bestTreasury) {
                    bestLaw = law;
                    bestTreasury = trial.cell(County.TREASURY);
                }
            }
        }

        // -- rows of lessons

        void seekRow(int child, int n) {
            foreseeOthers(child, n);
            bestRow = NONE;
            bestLength = 0;
            bestMonths = monthsByRow(child, n, 0, 0);
            int open = County.ALL_TENS & ~now.rightOf(child) & ~now.kid(child, County.KEPT);
            int rows = 1;
            for (int length = 1; length <= LONGEST_ROW; length++) {
                rows *= 10;
                // a row whose last ten comes too late is like the shorter one, which goes ahead of it
                if (length * now.kid(child, County.SLOW) <= n) {
                    seekRowOfLength(child, n, length, rows, open);
                }
            }
        }

        private void seekRowOfLength(int child, int n, int length, int rows, int open) {
            for (int row = 0; row < rows && bestMonths < n; row++) {
                if (!isOfTens(row, length, open)) {
                    continue;
                }
                int ruled = monthsByRow(child, n, row, length);
                if (ruled > bestMonths) {
                    bestRow = row;
                    bestLength = length;
                    bestMonths = ruled;
                }
            }
        }

        private static boolean isOfTens(int row, int length, int open) {
            int left = open;
            for (int i = 0; i < length; i++) {
                int ten = tenOfRow(row, length, i);
                if ((left >> ten & 1) == 0) {
                    return false;
                }
                left &= ~(1 << ten);
            }
            return true;
        }

        private static int tenOfRow(int row, int length, int i) {
            int behind = row;
            for (int k = length - 1; k > i; k--) {
                behind /= 10;
            }
            return behind % 10;
        }

        /** What others do does not hang on the row, so it is looked at once for all rows. */
        private void foreseeOthers(int child, int n) {
            trial.become(now);
            for (int i = 0; i < n && i < asked.length && i < claims.length; i++) {
                trial.beginMonth();
                int trier = trial.trier();
                asked[i] = trier == NONE ? NONE : trial.askedOf(child, trial.askedBy(trier));
                claims[i] = trier == NONE ? NONE : trial.claimant(trial.askedBy(trier), child);
            }
        }

        private int monthsByRow(int child, int n, int row, int length) {
            int right = now.rightOf(child);
            int slow = now.kid(child, County.SLOW);
            int untilGrown = now.cell(County.GROWS) - now.kid(child, County.AGE);
            int ruler = now.ruler();
            int ruled = 0;
            int had = 0;
            for (int i = 0; i < n && i < asked.length && i < claims.length; i++) {
                int months = i + 1;
                if (had < length && months == slow * (had + 1)) {
                    right |= 1 << tenOfRow(row, length, had);
                    had++;
                }
                int claimant = claims[i];
                boolean may = asked[i] != NONE && (asked[i] & ~right) == 0 && months < untilGrown;
                if (may && (claimant == NONE || now.goesFirst(child, claimant))) {
                    claimant = child;
                }
                ruler = now.rulerBehind(ruler, claimant, months);
                ruled += ruler == child ? 1 : 0;
            }
            return ruled;
        }

        // -- keeping from a ten

        int fewestKept(int child, int ten, int n) {
            int learners = othersLearning(child, ten);
            int best = NONE;
            for (int set = 0; set <= learners; set++) {
                // to keep one who does not learn the ten changes nothing ahead
                boolean fewer = best == NONE || Integer.bitCount(set) < Integer.bitCount(best);
                if ((set & ~learners) == 0 && fewer && rulesAll(child, ten, set, n)) {
                    best = set;
                }
            }
            return best;
        }

        private int othersLearning(int child, int ten) {
            int bits = 0;
            for (int other = 0; other < now.children(); other++) {
                if (other != child && now.kid(other, County.LESSON) == ten) {
                    bits |= 1 << other;
                }
            }
            return bits;
        }

        private boolean rulesAll(int child, int ten, int kept, int n) {
            trial.become(now);
            for (int other = 0; other < now.children(); other++) {
                if ((kept >> other & 1) != 0) {
                    trial.setKept(other, ten, true);
                }
            }
            for (int i = 0; i < n; i++) {
                if (rulerOfNextMonth() != child) {
                    return false;
                }
            }
            return true;
        }

        // -- nurseries against each other

        int gain(int first, int second) {
            trial.become(now);
            teachLowest(first);
            teachLowest(second);
            int one = now.kid(first, County.NURSERY);
            int other = now.kid(second, County.NURSERY);
            int gain = 0;
            for (int i = 0; i < DUEL_MONTHS; i++) {
                int ruler = rulerOfNextMonth();
                gain += trial.isOfNursery(ruler, one) ? 1 : 0;
                gain -= trial.isOfNursery(ruler, other) ? 1 : 0;
            }
            return gain;
        }

        private void teachLowest(int child) {
            int ten = trial.lowestNotRight(child);
            if (ten != NONE) {
                trial.makeRight(child, ten);
            }
        }

        /** How many rests there are (i NONE), or the i-th, by what was weighed; NONE without it. */
        int restAt(int one, int other, int i) {
            int found = 0;
            for (int first = 0; first < now.children(); first++) {
                for (int second = 0; second < now.children(); second++) {
                    if (now.isOfNursery(first, one) && now.isOfNursery(second, other) && isRest(first, second)) {
                        if (found == i) {
                            return 10 * first + second;
                        }
                        found++;
                    }
                }
            }
            return i == NONE ? found : NONE;
        }

        void weighAll(int one, int other) {
            for (int first = 0; first < now.children(); first++) {
                for (int second = 0; second < now.children(); second++) {
                    int place = placeOf(first, second);
                    if (now.isOfNursery(first, one) && now.isOfNursery(second, other) && place < gains.length) {
                        gains[place] = gain(first, second);
                    }
                }
            }
        }

        private static int placeOf(int first, int second) {
            return first * County.MOST_CHILDREN + second;
        }

        private int weighed(int first, int second) {
            int place = placeOf(first, second);
            return place >= 0 && place < gains.length ? gains[place] : 0;
        }

        private boolean isRest(int first, int second) {
            int gain = weighed(first, second);
            int one = now.kid(first, County.NURSERY);
            int other = now.kid(second, County.NURSERY);
            for (int child = 0; child < now.children(); child++) {
                if (now.isOfNursery(child, one) && weighed(child, second) > gain) {
                    return false;
                }
                if (now.isOfNursery(child, other) && weighed(first, child) < gain) {
                    return false;
                }
            }
            return true;
        }
    }
}
