/** Each promise of the document by hand: ordinary inputs, the edges that it names, wrong inputs. */
public final class PromisesTest {
    private static final int NONE = -1;
    private static final int HIDDEN = -1000000;
    private static final int THROWN = Check.THROWN;
    /** Three children, two elders: the first elder asks tens 0 to 2, and forgets every second month. */
    private static final String TOWN = "rg60u3p2;ca30k2n0s2;ca20k1w0n1s1y3;ca54k3n1;ea80f2k3;ea70k2";

    private PromisesTest() {
    }

    public static void main(String[] args) {
        p1NewObject();
        p2Feed();
        p3End();
        p4FaultOfCounty();
        p4FaultOfLaw();
        p5Text();
        p6Child();
        p7Elder();
        p8Rule();
        p9Law();
        p9Worth();
        p10Fever();
        p11PassesAndSlips();
        p13Examiner();
        p14Teach();
        p15Wrong();
        p16Keep();
        p17Buy();
        p18Months();
        p18WhoRules();
        p19Fevers();
        p20Undo();
        p21Log();
        p22Ahead();
        p23Reign();
        p24Plan();
        p25Keepers();
        p26PlumsAndPeace();
        p28DuelAndRests();
        p30Teachers();
        p31Spans();
        p32Chain();
        p33ThreesPartyHeir();
        p36Late();
        p37BeforeWithoutSpoil();
        p40Soon();
        p41Fevered();
        p42YoungestAndRivals();
        p43Richest();
        p45Forgotten();
        p46ImageAndBack();
        p48Count();
        Check.close();
    }

    private static void due(String what, long got, long want) {
        Check.due(what, got, want);
    }

    private static void due(String what, boolean got, boolean want) {
        Check.due(what, got, want);
    }

    private static void p1NewObject() {
        CountRule x = new CountRule();
        int[] counts = {0, 0, 0, 0, NONE, 0, NONE, 0, 0, 0, 0, 0};
        for (int what = 0; what < counts.length; what++) {
            due("1: count " + what, x.count(what), counts[what]);
        }
        due("1: child", Check.child(x, 0, 0), THROWN);
        due("1: examiner", x.examiner(), NONE);
        due("1: months", x.months(1), NONE);
        due("1: reign of a nursery", x.reign(0, 1, 1), NONE);
        due("1: back", x.back(), NONE);
        due("1: undo", x.undo(), NONE);
        due("1: the constants", CountRule.NONE == NONE && CountRule.HIDDEN == HIDDEN, true);
    }

    private static void p2Feed() {
        CountRule x = new CountRule();
        due("2: bytes of 0 are left out", x.feed(0x63003b00, 0, 0x00000065, 0, 0), 3);
        due("2: highest first", x.fault(0), NONE);
        due("2: as told", x.text(0), 1);
        due("2: nothing", x.feed(0, 0, 0, 0, 0), 0);
        for (int i = 1; i <= 12; i++) {
            due("2: twenty more", x.feed(-1, -1, -1, -1, -1), 20 * i);
        }
        due("2: more than 240", x.feed(1, 0, 0, 0, 0), NONE);
        due("2: refused, nothing changed", x.count(3), 240);
        due("2: nothing more is no more than 240", x.feed(0, 0, 0, 0, 0), 240);
        due("2: shorter", x.end(239), true);
        due("2: two more are too many", x.feed(0, 0x00010100, 0, 0, 0), NONE);
        due("2: none of them came", x.count(3), 239);
        due("2: one more is not", x.feed(0, 0, 0, 0, 0x00000100), 240);
        x.end(236);
        for (int word = 0; word < 5; word++) {
            due("2: each number counts", x.feed(-1, word == 0 ? 1 : 0, word == 1 ? 1 : 0, word == 2 ? 1 : 0, word == 3 ? 1 : 0),
                word == 4 ? 240 : NONE);
        }
    }

    private static void p3End() {
        CountRule x = new CountRule();
        Check.feed(x, "c;e;x");
        due("3: below", x.end(-1), false);
        due("3: beyond", x.end(6), false);
        due("3: all of it", x.end(5), true);
        due("3: x is there", x.fault(0), 4);
        due("3: shorter", x.end(3), true);
        due("3: how many", x.count(3), 3);
        due("3: without x", x.fault(0), NONE);
        due("3: what was cut off is gone", x.end(4), false);
        due("3: none", x.end(0), true);
        due("3: far below", x.end(Integer.MIN_VALUE), false);
    }

    private static void countyFault(String text, int want) {
        due("4: county " + text, Check.fault(0, text), want);
    }

    private static void p4FaultOfCounty() {
        countyFault("", 0);
        countyFault("  ", 2);
        countyFault("c", NONE);
        countyFault(" c ; e ", NONE);
        countyFault("e;r", 3);
        countyFault("e ", 2);
        countyFault("c;", 2);
        countyFault("c;;c", 2);
        countyFault(";c", 0);
        countyFault("c,", 1);
        countyFault("ce", 1);
        countyFault("C", 0);
        countyFault("ca", 2);
        countyFault("ca ", 3);
        countyFault("ca;", 2);
        countyFault("c5", 1);
        countyFault("ca 05", NONE);
        countyFault("ca1 2", 4);
        countyFault("ca99k9w9n4s9y3;ea99f9k9;rg99u9p9", NONE);
        countyFault("ca0k0w0n0s1y1;ea0f0k0;rg1u1p0", NONE);
        countyFault("y3", 0);
        countyFault("ck10", 3);
        countyFault("ck99", 3);
        countyFault("ck100", 4);
        countyFault("ca005", 4);
        countyFault("cs0", 2);
        countyFault("cs00", 3);
        countyFault("cs01", NONE);
        countyFault("cs0 ;x", 2);
        countyFault("cn5a", 2);
        countyFault("cy4", 2);
        countyFault("cy0", 2);
        countyFault("ca1k1a1", 5);
        countyFault("ca1;ca1", NONE);
        countyFault("cg1", 1);
        countyFault("c;ew1", 3);
        countyFault("c;ef10", 5);
        countyFault("c;rg0", 4);
        countyFault("c;ra1", 3);
        countyFault("r;c;r", 4);
        countyFault("c;c;c;c;c;c;c;c;e;e;e;e;r", NONE);
        countyFault("c;c;c;c;c;c;c;c;c", 16);
        countyFault("e;e;c;e;e;e", 10);
        countyFault("c\u00e9", 1);
        CountRule x = new CountRule();
        due("4: no such sort", x.fault(2), -2);
        due("4: no such sort below", x.fault(-1), -2);
        Check.feed(x, "c;e");
        x.fault(0);
        x.fault(1);
        due("4: to look changes nothing", x.count(3), 3);
    }

    private static void lawFault(String text, int want) {
        due("4: law " + text, Check.fault(1, text), want);
    }

    private static void p4FaultOfLaw() {
        lawFault("", 0);
        lawFault("y", 1);
        lawFault("y:", 2);
        lawFault("y:1", NONE);
        lawFault(" y : 1 ; y : c = 2 ? a * k / n + m - w ", NONE);
        lawFault("x:1", 0);
        lawFault("yc", 1);
        lawFault("y:y", 2);
        lawFault("y:1;", 4);
        lawFault("y:1;z", 4);
        lawFault("y:c?1", 3);
        lawFault("y:c=1", 5);
        lawFault("y:c=1;", 5);
        lawFault("y:c=1?", 6);
        lawFault("y:c=1?1?", 7);
        lawFault("y:c=1=1?1", 5);
        lawFault("y:-1", 2);
        lawFault("y:1+", 4);
        lawFault("y:1+-1", 4);
        lawFault("y:9999", NONE);
        lawFault("y:00000", 6);
        lawFault("y:1 2", 4);
        lawFault("y:c5", 3);
        lawFault("y:(c=1)?2", NONE);
        lawFault("y:(c)?2", 4);
        lawFault("y:(c=1)", 7);
        lawFault("y:(c=1);", 7);
        lawFault("y:(c=1)+1", 7);
        lawFault("y:(c=1", 6);
        lawFault("y:(c=1]", 6);
        lawFault("y:[c=1]?1", 4);
        lawFault("y:[c]=1?1", NONE);
        lawFault("y:[c]", NONE);
        lawFault("y:[c", 4);
        lawFault("y:[c)", 4);
        lawFault("y:!c?1", 4);
        lawFault("y:!c=1&!(a=1|k<2)?1", NONE);
        lawFault("y:c=1|2?1", 7);
        lawFault("y:c=1?(1)", 6);
        lawFault("y:1+(1)", 4);
        lawFault("y:1+!c=1", 4);
        lawFault("y:[[[[[[1]]]]]]", NONE);
        lawFault("y:[[[[[[[1]]]]]]]", 8);
        lawFault("y:!(!(!(c=1)))?1", NONE);
        lawFault("y:!(!(!([c]=1)))?1", 8);
        lawFault("y:!!!!!!c=1&!!!!!!c=2?[[[[[[1]]]]]]", NONE);
        lawFault("y:!!!!!!c=[1]?1", 10);
        lawFault("y:((((((c=1))))))?1", NONE);
        lawFault("y:(((((((c=1)))))))?1", 8);
    }

    private static void p5Text() {
        CountRule x = new CountRule();
        due("5: empty", x.text(0), NONE);
        Check.feed(x, "cx");
        due("5: a fault", x.text(0), NONE);
        due("5: the tape stays", x.count(3), 2);
        x.end(1);
        due("5: no such sort", x.text(2), NONE);
        due("5: no such sort below", x.text(-1), NONE);
        due("5: a law's fault", x.text(1), NONE);
        due("5: one child", x.text(0), 1);
        due("5: the tape is empty", x.count(3), 0);
        for (int law = 0; law < 4; law++) {
            Check.feed(x, "y:" + law);
            due("5: the law's number", x.text(1), law);
        }
        Check.feed(x, "y:5");
        due("5: there are four", x.text(1), NONE);
        due("5: the tape stays, too", x.count(3), 3);
        x.law(2);
        x.fever(7);
        Check.tell(x, 0, "ck9;e;c");
        x.image();
        x.months(3);
        due("5: rules", x.count(6), 0);
        Check.feed(x, "zz");
        due("5: refused, nothing changed", x.text(0) == NONE && x.count(5) == 3 && x.count(11) == 3, true);
        Check.tell(x, 0, "c;c;c");
        int[] counts = {3, 0, 4, 0, 2, 0, NONE, 0, 7, 0, 0, 0};
        for (int what = 0; what < counts.length; what++) {
            due("5: of the new county, count " + what, x.count(what), counts[what]);
        }
        due("5: the image is of another county", x.back(), NONE);
        due("5: nothing to undo", x.undo(), NONE);
        due("5: no log", x.log(0, 0), HIDDEN);
    }

    private static void p6Child() {
        CountRule x = Check.county("c;ca7k5w2n3s4y2;rg9u1p4;e");
        int[] usual = {40, 0, 0, 0, 2, 1, NONE, 0, 0, 0, 0, 0};
        int[] told = {7, 31, 4, 3, 4, 2, NONE, 0, 0, 0, 20, 20};
        for (int what = 0; what <= 11; what++) {
            due("6: usual " + what, Check.child(x, 0, what), usual[what]);
            due("6: told " + what, Check.child(x, 1, what), told[what]);
        }
        x.teach(1, 6);
        x.keep(1, 8, true);
        due("6: lesson", Check.child(x, 1, 6), 6);
        due("6: to go", Check.child(x, 1, 7), 4);
        due("6: kept", Check.child(x, 1, 8), 256);
        x.months(1);
        due("6: rules at 8 months, before 9", Check.child(x, 1, 9), 1);
        x.months(1);
        due("6: grown out", Check.child(x, 1, 9), 1);
        due("6: older", Check.child(x, 1, 0), 9);
        due("6: all tens", Check.child(Check.county("ck9"), 0, 10), 90);
        due("6: w9 is none", Check.child(Check.county("cw9k9"), 0, 2), 0);
        due("6: wrong and not known", Check.child(Check.county("cw8"), 0, 2), 256);
        due("6: no such child", Check.child(x, 2, 0), THROWN);
        due("6: below", Check.child(x, -1, 0), THROWN);
        due("6: no such what", Check.child(x, 0, 12), THROWN);
        due("6: what below", Check.child(x, 0, -1), THROWN);
        due("6: far beyond", Check.child(x, Integer.MAX_VALUE, Integer.MIN_VALUE), THROWN);
    }

    private static void p7Elder() {
        CountRule x = Check.county("c;e;ea9f3k2");
        due("7: age", x.elder(0, 0), 70);
        due("7: forgets", x.elder(0, 1), 0);
        due("7: knows", x.elder(0, 2), 511);
        due("7: age told", x.elder(1, 0), 9);
        due("7: forgets told", x.elder(1, 1), 3);
        due("7: knows told", x.elder(1, 2), 3);
        x.months(2);
        due("7: not yet", x.elder(1, 2), 3);
        x.months(1);
        due("7: the highest is forgotten", x.elder(1, 2), 1);
        x.months(3);
        due("7: the last one, too", x.elder(1, 2), 0);
        x.months(3);
        due("7: nothing is left to forget", x.elder(1, 2), 0);
        due("7: never forgets", x.elder(0, 2), 511);
        due("7: elders do not get older", x.elder(0, 0), 70);
        due("7: no such elder", x.elder(2, 0), NONE);
        due("7: below", x.elder(-1, 0), NONE);
        due("7: no such what", x.elder(0, 3), NONE);
        due("7: what below", x.elder(0, -1), NONE);
    }

    private static void p8Rule() {
        CountRule x = Check.county("c");
        due("8: usual", x.rule(0) * 100 + x.rule(1) * 10 + x.rule(2), 9091);
        x = Check.county("rp0u2g1;c");
        due("8: told g", x.rule(0), 1);
        due("8: told u", x.rule(1), 2);
        due("8: told p", x.rule(2), 0);
        due("8: no such what", x.rule(3), NONE);
        due("8: below", x.rule(-1), NONE);
        due("8: no county", new CountRule().rule(1), NONE);
    }

    private static void p9Law() {
        CountRule x = new CountRule();
        due("9: none holds", x.law(NONE), true);
        due("9: no law", x.law(0), false);
        Check.tell(x, 1, "y:5");
        due("9: told, not holding", x.count(4), NONE);
        due("9: holds", x.law(0), true);
        due("9: again", x.law(0), true);
        due("9: no such one", x.law(1), false);
        due("9: below", x.law(-2), false);
        due("9: still holds", x.count(4), 0);
        Check.tell(x, 0, "ck3");
        due("9: tax by law", Check.child(x, 0, 11), 5);
        due("9: none again", x.law(NONE), true);
        due("9: tax is the count", Check.child(x, 0, 11), 30);
    }

    private static void tax(String law, int want) {
        CountRule x = Check.county("ca50;ca33k8w6n2;c");
        x.wrong(1, 8);
        x.months(4);
        x.law(Check.tell(x, 1, law));
        due("9: tax by " + law, Check.child(x, 1, 11), want);
    }

    private static void p9Worth() {
        tax("y:c", 60);
        tax("y:a", 37);
        tax("y:k", 7);
        tax("y:n", 2);
        tax("y:m", 4);
        tax("y:w", 2);
        tax("y:9999", 60);
        tax("y:0-1", 0);
        tax("y:2+3*4", 14);
        tax("y:[2+3]*4", 20);
        tax("y:20-5-3", 12);
        tax("y:40/3/2", 6);
        tax("y:40/[3/2]", 40);
        tax("y:7/0+1", 1);
        tax("y:[0-7]/2+10", 7);
        tax("y:9999*9999-9999*99-9999-90", 10);
        tax("y:0-9999*9999+9999*100+107", 7);
        tax("y:9999*9999/9999", 60);
        tax("y:[9999*9999]/9999-60", 40);
        tax("y:c>60?1;y:c<60?2;y:c=60?3", 3);
        tax("y:c=61?1", 0);
        tax("y:c=61?1;y:8;y:9", 8);
        tax("y:!c=61?1", 1);
        tax("y:!!c=61?1;y:2", 2);
        tax("y:c=1|c=60&a=1?1;y:2", 2);
        tax("y:c=60|c=60&a=1?1;y:2", 1);
        tax("y:(c=60|c=60)&a=1?1;y:2", 2);
        tax("y:!(c=60&a=1)?1;y:2", 1);
        tax("y:!c=60&a=1?1;y:2", 2);
        tax("y:[c+a]=97?1;y:2", 1);
        tax("y: c + a > 96 ?1;y:2", 1);
        // as many numbers waiting at once as six within one another can leave
        tax("y:1=2|1=1&(1=2|1=1&(1=2|1=1&(1=2|1=1&(1=2|1=1&33=1+2*[3+5*2]+6))))?7;y:2", 7);
        tax("y:1=2|1=1&(1=2|1=1&(1=2|1=1&(1=2|1=1&(1=2|1=1&(1=2|1=1&33=1+2*16)))))?7;y:2", 7);
        tax("y:1=2|1=1&(1=2|1=1&(1=2|1=1&(1=2|1=1&(1=2|1=1&(1=2|1=1&34=1+2*16)))))?7;y:2", 2);
        tax("y:1+1*[1+1*[1+1*[1+1*[1+1*[1+1*[1+1*3]]]]]]", 10);
        tax("y:1=2|1=1&9=1+1*[1+1*[1+1*[1+1*[1+1*[1+1*[1+1*2]]]]]]?7;y:3", 7);
    }

    private static void p10Fever() {
        CountRule x = new CountRule();
        due("10: it is so", x.fever(0), false);
        due("10: beyond", x.fever(100), false);
        due("10: below", x.fever(-1), false);
        due("10: told", x.fever(99), true);
        due("10: it is so, too", x.fever(99), false);
        due("10: count", x.count(8), 99);
        due("10: none again", x.fever(0), true);
    }

    private static void p11PassesAndSlips() {
        CountRule x = Check.county("ck4w1;ck4y2w1;ck1y3;ck2y3;c;ek5;ek0;ek1;ru4");
        int[] passes = {0, 1, 0, 0, 0};
        int[] slips = {2, 0, 8, 8, 15};
        for (int child = 0; child < 5; child++) {
            due("11: " + child, x.passes(child, 0), passes[child]);
            due("12: " + child, x.slips(child, 0), slips[child]);
            due("11: nothing asked", x.passes(child, 1), 1);
            due("12: nothing asked", x.slips(child, 1), 0);
        }
        due("11: one ten asked", x.passes(4, 2), 0);
        due("12: one ten asked", x.slips(4, 2), 1);
        x = Check.county("ck4w4y2;ck8y3;e");
        due("12: by twos", x.slips(0, 0), 1 << 4 | 1 << 6 | 1 << 8);
        due("11: by threes", x.passes(1, 0), 1);
        due("11: no such child", x.passes(2, 0), NONE);
        due("11: no such elder", x.passes(0, 1), NONE);
        due("11: below", x.passes(-1, 0), NONE);
        due("12: no such child", x.slips(2, 0), NONE);
        due("12: no such elder", x.slips(0, 1), NONE);
        due("12: below", x.slips(0, -1), NONE);
    }

    private static void p13Examiner() {
        due("13: the oldest", Check.county("c;ea60;ea80;ea70").examiner(), 1);
        due("13: of several the lowest", Check.county("c;ea60;ea80;ea80").examiner(), 1);
        due("13: one that knows nothing does not try", Check.county("c;ea60;ea80k0").examiner(), 0);
        due("13: nobody", Check.county("c;ek0").examiner(), NONE);
        due("13: no elder", Check.county("c").examiner(), NONE);
        CountRule x = Check.county("c;ea80f1k1;e");
        due("13: now", x.examiner(), 0);
        x.months(1);
        due("13: it forgot", x.examiner(), 1);
    }

    private static void p14Teach() {
        CountRule x = Check.county("ck2w1s3;cs1;e");
        due("14: a right one", x.teach(0, 0), NONE);
        due("14: no such ten", x.teach(0, 9), NONE);
        due("14: ten below", x.teach(0, -1), NONE);
        due("14: no such child", x.teach(2, 5), NONE);
        due("14: child below", x.teach(-1, 5), NONE);
        due("14: a wrong one", x.teach(0, 1), 1);
        due("14: it has one", x.teach(0, 2), NONE);
        x.months(2);
        due("14: one month to go", Check.child(x, 0, 7), 1);
        due("14: not yet right", Check.child(x, 0, 10), 10);
        x.months(1);
        due("14: had", Check.child(x, 0, 6), NONE);
        due("14: nothing to go", Check.child(x, 0, 7), 0);
        due("14: not wrong any more", Check.child(x, 0, 2), 0);
        due("14: counts", Check.child(x, 0, 10), 20);
        x.keep(1, 4, true);
        due("14: kept from it", x.teach(1, 4), NONE);
        x.keep(1, 4, false);
        due("14: no more", x.teach(1, 4), 7);
        x.months(1);
        due("14: one that is not the next", Check.child(x, 1, 1), 16);
        due("14: refused changes nothing", x.count(11), 8);
    }

    private static void p15Wrong() {
        CountRule x = Check.county("ck3s1;c");
        due("15: one known", x.wrong(0, 1), 1);
        due("15: it is known still", Check.child(x, 0, 1), 7);
        due("15: it is wrong", x.wrong(0, 1), NONE);
        due("15: one not known", x.wrong(0, 8), 2);
        due("15: bits", Check.child(x, 0, 2), 258);
        due("15: counts", Check.child(x, 0, 10), 10);
        due("15: no such ten", x.wrong(0, 9), NONE);
        due("15: ten below", x.wrong(0, -1), NONE);
        due("15: no such child", x.wrong(2, 0), NONE);
        due("15: a lesson goes on", x.teach(0, 1), 3);
        due("15: and makes it right", x.months(1), 1);
        due("15: counts again", Check.child(x, 0, 10), 30);
    }

    private static void p16Keep() {
        CountRule x = Check.county("cs5;c");
        due("16: it is so", x.keep(0, 2, false), NONE);
        x.teach(0, 2);
        due("16: from another", x.keep(0, 3, true), 2);
        due("16: the lesson stays", Check.child(x, 0, 6), 2);
        due("16: from it", x.keep(0, 2, true), 3);
        due("16: the lesson ends", Check.child(x, 0, 6), NONE);
        due("16: nothing to go", Check.child(x, 0, 7), 0);
        due("16: it is so, too", x.keep(0, 2, true), NONE);
        due("16: no more", x.keep(0, 2, false), 4);
        due("16: the lesson does not come again", Check.child(x, 0, 6), NONE);
        due("16: bits", Check.child(x, 0, 8), 8);
        due("16: no such ten", x.keep(0, 9, true), NONE);
        due("16: ten below", x.keep(0, -1, true), NONE);
        due("16: no such child", x.keep(2, 0, true), NONE);
        due("16: no such child, no more", x.keep(-1, 0, false), NONE);
    }

    private static void p17Buy() {
        CountRule x = Check.county("ck2;cw5;ru1p9;ek1");
        due("17: no plums", x.buy(0, 2), NONE);
        x.months(1);
        due("17: treasury", x.count(7), 20);
        due("17: a right one", x.buy(0, 1), NONE);
        due("17: no such ten", x.buy(0, 9), NONE);
        due("17: ten below", x.buy(0, -1), NONE);
        due("17: no such child", x.buy(2, 0), NONE);
        x.keep(1, 5, true);
        x.teach(1, 4);
        due("17: bought, though kept from it and wrong", x.buy(1, 5), 11);
        due("17: right", Check.child(x, 1, 2), 0);
        due("17: known", Check.child(x, 1, 1), 32);
        due("17: the lesson goes on", Check.child(x, 1, 6), 4);
        due("17: bought", x.buy(1, 0), 2);
        due("17: not so many plums", x.buy(1, 1), NONE);
        due("17: acts", x.count(11), 5);
        x = Check.county("c;rp0");
        due("17: for nothing", x.buy(0, 0), 0);
    }

    private static void p18Months() {
        CountRule x = Check.county("ck9;e");
        due("18: none", x.months(0), NONE);
        due("18: too many", x.months(61), NONE);
        due("18: below", x.months(Integer.MIN_VALUE), NONE);
        due("18: nothing changed", x.count(5), 0);
        due("18: sixty", x.months(60), 60);
        due("18: one more", x.months(1), 61);
        due("18: ruled until grown out", Check.child(x, 0, 9), 49);
        due("18: treasury", x.count(7), 49 * 90);
    }

    private static void p18WhoRules() {
        CountRule x = Check.county("ca30k9;ca20k9;ca20k9;ca10k8;ca25k9;e;rg40");
        x.months(1);
        due("18: the youngest, of several the lowest", x.count(6), 1);
        x.wrong(1, 0);
        x.months(1);
        due("18: it rules on, if none is younger", x.count(6), 1);
        due("18: and pays what it counts", x.log(0, 2), 0);
        x.teach(3, 8);
        x.months(2);
        due("18: a younger one learned it", x.count(6), 3);
        due("18: months of the one", Check.child(x, 1, 9), 3);
        due("18: of the other", Check.child(x, 3, 9), 1);
        x = Check.county("ca37k9;ca38k9;e;rg39");
        x.months(1);
        due("18: rules", x.count(6), 0);
        x.months(1);
        due("18: grown out, the other as well", x.count(6), NONE);
        x = Check.county("ca37k9;ca20k0s3;ef3k1;rg39u1");
        x.teach(1, 0);
        x.months(1);
        due("18: the one who can", x.count(6), 0);
        x.months(1);
        due("18: grown out at 39", x.count(6), NONE);
        x.months(1);
        due("18: the elder forgot in the month of the lesson", x.count(6), NONE);
        due("18: though it was had", Check.child(x, 1, 10), 10);
        x = Check.county("ca10k0;ca20k9;ef1k1");
        x.months(3);
        due("18: nobody without an examiner", x.count(6), NONE);
        x = Check.county("ca10k0;ca20k1;ef2k1");
        x.months(5);
        due("18: a ruler stays without an examiner", x.count(6), 1);
    }

    private static void p19Fevers() {
        CountRule x = Check.county("ck9;ck9;ck9;ck9;e");
        due("19: none", x.fevers(0, 5L), NONE);
        due("19: too many", x.fevers(61, 5L), NONE);
        due("19: without fever", x.fevers(3, 5L), 3);
        due("19: all know it", Check.child(x, 0, 1) & Check.child(x, 1, 1) & Check.child(x, 2, 1) & Check.child(x, 3, 1), 511);
        x.fever(50);
        due("19: fevers", x.fevers(1, 12345L), 4);
        long lot = 12345L;
        for (int child = 0; child < 4; child++) {
            lot = lot * 6364136223846793005L + 1442695040888963407L;
            boolean ill = (lot >>> 33) % 100 < 50;
            due("19: child " + child, Check.child(x, child, 1), ill ? 511 - 128 : 511);
        }
        lot = 99L * 6364136223846793005L + 1442695040888963407L;
        int drawn = (int) ((lot >>> 33) % 100);
        x = Check.county("ck9;e");
        x.fever(drawn);
        x.fevers(1, 99L);
        due("19: as much as the fever is not below it", Check.child(x, 0, 1), 511);
        x.fever(drawn + 1);
        due("19: by hand nobody falls ill", x.months(60), 61);
        due("19: nobody", Check.child(x, 0, 1), 511);
        x.undo();
        x.fevers(1, 99L);
        due("19: below it", Check.child(x, 0, 1), 511 - 128);
        due("19: sixty", x.fevers(60, -1L), 121);
        x = Check.county("ck8s1;e;ru8");
        x.fever(99);
        x.wrong(0, 7);
        x.teach(0, 7);
        x.fevers(1, 1L);
        due("19: behind the lessons", Check.child(x, 0, 1), 127);
        due("19: ahead of the ruler", x.count(6), NONE);
        due("19: each month is an act", x.count(11), 3);
        due("19: by hand no fever", x.months(1), 2);
        due("19: undone", x.undo() * 10 + x.undo(), 32);
        due("19: the lesson is there again", Check.child(x, 0, 6), 7);
    }

    private static void p20Undo() {
        CountRule x = Check.county("ck9s3;c;e");
        due("20: none", x.undo(), NONE);
        x.months(2);
        x.teach(1, 0);
        x.wrong(0, 1);
        x.keep(1, 0, true);
        x.buy(0, 1);
        due("20: six", x.count(11), 6);
        due("20: plums back", x.undo(), 5);
        due("20: treasury", x.count(7), 180);
        due("20: not bought", Check.child(x, 0, 2), 2);
        due("20: kept no more", x.undo(), 4);
        due("20: and in the lesson", Check.child(x, 1, 7), 2);
        due("20: not wrong", x.undo(), 3);
        due("20: counts", Check.child(x, 0, 10), 90);
        due("20: no lesson", x.undo(), 2);
        due("20: none indeed", Check.child(x, 1, 6), NONE);
        due("20: a month", x.undo(), 1);
        due("20: the month", x.count(5), 1);
        due("20: the log", x.count(10), 1);
        due("20: younger", Check.child(x, 0, 0), 41);
        due("20: the first one", x.undo(), 0);
        due("20: no ruler", x.count(6), NONE);
        due("20: none is left", x.undo(), NONE);
        x.months(60);
        x.months(3);
        due("20: forty at most", x.count(11), 40);
        int undone = 0;
        while (x.undo() != NONE) {
            undone++;
        }
        due("20: forty", undone, 40);
        due("20: back to the month", x.count(5), 23);
        due("20: fever and laws are no acts", x.fever(3), true);
        due("20: so nothing to undo", x.undo(), NONE);
    }

    private static void p21Log() {
        CountRule x = Check.county("ca30k1;ca20k0s2;ea80k1f4;ea60k0");
        x.teach(1, 0);
        x.months(4);
        due("21: how long", x.count(10), 4);
        int[] rulers = {1, 1, 1, 0};
        int[] triers = {NONE, 0, 0, 0};
        for (int i = 0; i < 4; i++) {
            due("21: ruler " + i, x.log(i, 0), rulers[i]);
            due("21: examiner " + i, x.log(i, 1), triers[i]);
            due("21: paid " + i, x.log(i, 2), 10);
        }
        due("21: no such one", x.log(4, 0), HIDDEN);
        due("21: below", x.log(-1, 0), HIDDEN);
        due("21: no such what", x.log(0, 3), HIDDEN);
        due("21: what below", x.log(0, -1), HIDDEN);
        x.law(Check.tell(x, 1, "y:m-100"));
        CountRule y = Check.county("ca0k9;e");
        y.law(Check.tell(y, 1, "y:m"));
        y.months(60);
        y.months(10);
        due("21: sixty at most", y.count(10), 60);
        due("21: the latest", y.log(0, 2), 70);
        due("21: the oldest", y.log(59, 2), 11);
        due("21: no older one", y.log(60, 2), HIDDEN);
        for (int i = 0; i < 40; i++) {
            y.undo();
        }
        due("21: undone, thirty", y.count(10), 30);
        due("21: undone, the oldest", y.log(29, 2), 1);
        y.months(60);
        y.months(60);
        for (int i = 0; i < 40; i++) {
            y.undo();
        }
        due("21: undone, sixty", y.count(10), 60);
        due("21: undone, those ahead are seen again", y.log(59, 2), 51);
        due("21: undone, the latest", y.log(0, 0), NONE);
        y = Check.county("ca0k9;e;rg99");
        y.law(Check.tell(y, 1, "y:m-50"));
        y.months(60);
        for (int month = 61; month < 99; month++) {
            y.months(1);
            due("21: month " + month, y.log(0, 2), month - 50);
        }
        y.months(5);
        for (int i = 0; i < 60; i++) {
            due("21: of each month " + i, y.log(i, 0), i < 5 ? NONE : 0);
            due("21: the examiner " + i, y.log(i, 1), 0);
            due("21: paid " + i, y.log(i, 2), i < 5 ? 0 : Math.max(0, 53 - i));
        }
    }

    private static void p22Ahead() {
        CountRule x = Check.county(TOWN);
        due("22: now", x.ahead(0, 0), NONE);
        due("22: now the treasury", x.ahead(0, 1), 0);
        due("22: one", x.ahead(1, 0), 2);
        due("22: two", x.ahead(2, 0), 0);
        due("22: treasury", x.ahead(2, 1), 50);
        due("22: grown out", x.ahead(30, 0), NONE);
        due("22: sixty", x.ahead(60, 1), 30 + 28 * 20);
        due("22: apart", x.count(5), 0);
        due("22: too many", x.ahead(61, 0), HIDDEN);
        due("22: below", x.ahead(-1, 0), HIDDEN);
        due("22: no such what", x.ahead(1, 2), HIDDEN);
        due("22: what below", x.ahead(1, -1), HIDDEN);
        x.fever(99);
        x.law(Check.tell(x, 1, "y:7"));
        due("22: by the law that holds", x.ahead(2, 1), 14);
    }

    private static void p23Reign() {
        CountRule x = Check.county(TOWN);
        due("23: child 0", x.reign(0, 6, 0), 5);
        due("23: child 1", x.reign(1, 60, 0), 0);
        due("23: child 2", x.reign(2, 1, 0), 1);
        due("23: nursery 1", x.reign(1, 60, 1), 1);
        due("23: nursery without children", x.reign(4, 6, 1), 0);
        due("23: no such child", x.reign(3, 6, 0), NONE);
        due("23: no such nursery", x.reign(5, 6, 1), NONE);
        due("23: below", x.reign(-1, 6, 1), NONE);
        due("23: no months", x.reign(0, 0, 0), NONE);
        due("23: too many", x.reign(0, 61, 1), NONE);
        due("23: no such what", x.reign(0, 6, 2), NONE);
        due("23: what below", x.reign(0, 6, -1), NONE);
    }

    private static void plan(CountRule x, int child, int n, int row, int months, int length) {
        due("24: row of " + child + ", " + n, x.plan(child, n, 0), row);
        due("24: months of " + child + ", " + n, x.plan(child, n, 1), months);
        due("24: length of " + child + ", " + n, x.plan(child, n, 2), length);
    }

    private static void p24Plan() {
        CountRule x = Check.county("ca30s2w1k1;ca40k9;ek3;rg90u3");
        plan(x, 0, 3, NONE, 0, 0);
        plan(x, 0, 4, 12, 1, 2);
        plan(x, 0, 24, 12, 21, 2);
        plan(x, 1, 10, NONE, 10, 0);
        x.keep(0, 2, true);
        plan(x, 0, 24, NONE, 0, 0);
        x.keep(0, 2, false);
        due("24: acts are as they were", x.count(11), 2);
        due("24: no lesson was begun", Check.child(x, 0, 6), NONE);
        x.teach(0, 1);
        due("24: it has a lesson", x.plan(0, 4, 1), HIDDEN);
        due("24: another has none", x.plan(1, 4, 1), 4);
        x = Check.county("ca30s1;ca40k9;ek3;rg90u3");
        plan(x, 0, 24, 12, 22, 3);
        plan(x, 0, 3, 12, 1, 3);
        x = Check.county("ca30s1;ca40k9;ek4;rg90u4");
        plan(x, 0, 24, NONE, 0, 0);
        // the elder asks three tens in the second month, two in the fourth, one in the sixth
        x = Check.county("ca30s1k1;ca40k9;ef2k4");
        plan(x, 0, 6, 12, 5, 2);
        x = Check.county("ca30s2k1;ca40k9;ef2k4");
        plan(x, 0, 6, 1, 3, 1);
        x = Check.county("cs9k8;e");
        plan(x, 0, 9, 8, 1, 1);
        plan(x, 0, 8, NONE, 0, 0);
        plan(Check.county("cs1k8;e"), 0, 1, 8, 1, 1);
        x = Check.county("ca80k9;ca70;e");
        x.months(1);
        x.wrong(0, 0);
        plan(x, 0, 24, NONE, 8, 0);
        plan(Check.county("ca80k8s4;e"), 0, 24, 8, 6, 1);
        x = Check.county("cs9k8;e");
        due("24: no such child", x.plan(1, 5, 0), HIDDEN);
        due("24: below", x.plan(-1, 5, 0), HIDDEN);
        due("24: no months", x.plan(0, 0, 0), HIDDEN);
        due("24: too many", x.plan(0, 25, 0), HIDDEN);
        due("24: no such what", x.plan(0, 5, 3), HIDDEN);
        due("24: what below", x.plan(0, 5, -1), HIDDEN);
    }

    private static void p25Keepers() {
        CountRule x = Check.county("ca50k2;ca40k1s2;ca30k1s4;ca45k1s9;ca60k1s1;ek2;ru2");
        for (int child = 1; child < 5; child++) {
            x.teach(child, 1);
        }
        due("25: as it is", x.keepers(0, 1, 1), 0);
        due("25: one learns it in two", x.keepers(0, 1, 2), 2);
        due("25: one more in four", x.keepers(0, 1, 4), 6);
        due("25: one more in nine", x.keepers(0, 1, 9), 14);
        due("25: none is older than that", x.keepers(0, 1, 12), 14);
        due("25: another ten does not help", x.keepers(0, 0, 2), NONE);
        due("25: that one does not rule at first", x.keepers(1, 1, 2), NONE);
        due("25: nothing was kept", Check.child(x, 1, 6), 1);
        due("25: no such child", x.keepers(5, 1, 1), NONE);
        due("25: no such ten", x.keepers(0, 9, 1), NONE);
        due("25: ten below", x.keepers(0, -1, 1), NONE);
        due("25: no months", x.keepers(0, 1, 0), NONE);
        due("25: too many", x.keepers(0, 1, 13), NONE);
    }

    private static void p26PlumsAndPeace() {
        CountRule x = Check.county("ca50k9n1;ca40k5n2;ca30k2y3n2;ca60k9n3;ca89k9n4;ca20n0;e;rp3");
        int[] plums = {0, 12, 6, 0, 0, 27};
        for (int child = 0; child < 6; child++) {
            due("26: child " + child, x.plums(child), plums[child]);
        }
        due("26: no such child", x.plums(6), NONE);
        due("26: below", x.plums(-1), NONE);
        due("26: no examiner", Check.county("c;ek0").plums(0), NONE);
        int[] least = {27, 0, 6, 0, 0};
        int[] who = {5, 0, 2, 3, 4};
        for (int nursery = 0; nursery < 5; nursery++) {
            due("27: without a ruler, plums " + nursery, x.peace(nursery, 0), least[nursery]);
            due("27: without a ruler, who " + nursery, x.peace(nursery, 1), who[nursery]);
        }
        x.months(1);
        x.wrong(0, 0);
        due("27: the ruler", x.peace(1, 0), 0);
        due("27: who", x.peace(1, 1), 0);
        due("27: though it would not pass", x.plums(0), 3);
        due("27: younger than the ruler", x.peace(2, 0), 6);
        due("27: older than the ruler", x.peace(3, 0), NONE);
        due("27: grown out", x.peace(4, 1), NONE);
        due("27: no such nursery", x.peace(5, 0), NONE);
        due("27: below", x.peace(-1, 0), NONE);
        due("27: no such what", x.peace(1, 2), NONE);
        due("27: what below", x.peace(1, -1), NONE);
        due("27: no examiner", Check.county("c;ek0").peace(0, 0), NONE);
        due("27: of several the lowest", Check.county("ca30k8;ca20k8;e").peace(0, 1), 0);
        due("27: nobody there", Check.county("ca30k8;e").peace(1, 1), NONE);
    }

    private static void p28DuelAndRests() {
        CountRule x = Check.county(TOWN);
        due("28: the other's is younger", x.duel(0, 1, 0, 1), -12);
        due("28: the other's cannot", x.duel(0, 1, 0, 2), 12);
        due("28: the other way", x.duel(1, 0, 2, 0), -12);
        due("28: not of that nursery", x.duel(0, 1, 1, 2), HIDDEN);
        due("28: nor the other", x.duel(0, 1, 0, 0), HIDDEN);
        due("28: alike", x.duel(1, 1, 1, 2), HIDDEN);
        due("28: no such nursery", x.duel(0, 5, 0, 1), HIDDEN);
        due("28: below", x.duel(-1, 1, 0, 1), HIDDEN);
        due("28: no such child", x.duel(0, 1, 0, 3), HIDDEN);
        due("28: child below", x.duel(0, 1, -1, 1), HIDDEN);
        due("28: no county", new CountRule().duel(0, 1, 0, 1), HIDDEN);
        due("28: apart", Check.child(x, 0, 1), 3);
        due("29: how many", x.rests(0, 1, NONE), 1);
        due("29: the first", x.rests(0, 1, 0), 1);
        due("29: the other way", x.rests(1, 0, 0), 10);
        due("29: no such one", x.rests(0, 1, 1), NONE);
        due("29: below", x.rests(0, 1, -2), NONE);
        due("29: alike", x.rests(1, 1, NONE), NONE);
        due("29: no such nursery", x.rests(0, 5, NONE), NONE);
        due("29: nursery below", x.rests(-1, 0, NONE), NONE);
        due("29: a nursery without children", x.rests(0, 4, NONE), 0);
        due("29: no county", new CountRule().rests(0, 1, NONE), NONE);
        x = Check.county("ca30k1n2;ca31k1n2;ca32k1n3;ca33k1n3;ek1");
        due("28: nothing changes", x.duel(2, 3, 1, 2), 12);
        due("29: all rest", x.rests(2, 3, NONE), 4);
        due("29: rising", x.rests(2, 3, 0), 2);
        due("29: rising, the second", x.rests(2, 3, 1), 3);
        due("29: rising, the third", x.rests(2, 3, 2), 12);
        due("29: rising, the last", x.rests(2, 3, 3), 13);
        due("28: all tens are right", Check.county("ca9k9n1;ca8k9n2;e").duel(1, 2, 0, 1), -12);
        x = Check.county("ca20w0k1n1;ca40k1n0;ek1");
        x.keep(0, 0, true);
        due("28: a wrong one is made right", x.duel(1, 0, 0, 1), 12);
    }

    private static void p30Teachers() {
        CountRule x = Check.county("ck2w4;ck3w8;ck0;cw0;ek2;ek3;ek5;ek9");
        due("30: how many", x.teachers(0, NONE), 3);
        due("30: the first", x.teachers(0, 0), 1);
        due("30: the second", x.teachers(0, 1), 2);
        due("30: the third", x.teachers(0, 2), 3);
        due("30: no fourth", x.teachers(0, 3), NONE);
        due("30: without the last elder", x.teachers(1, NONE), 6);
        due("30: the least", x.teachers(1, 0), 2);
        due("30: the greatest", x.teachers(1, 5), 7);
        due("30: all but none", x.teachers(2, NONE), 15);
        due("30: who would not know it", x.teachers(3, NONE), 0);
        due("30: below", x.teachers(0, -2), NONE);
        due("30: no such child", x.teachers(4, NONE), NONE);
        due("30: child below", x.teachers(-1, NONE), NONE);
        due("30: no elders", Check.county("c").teachers(0, NONE), 0);
        x = Check.county("c;ek0");
        due("30: an elder without tens", x.teachers(0, 0), 1);
    }

    private static void p31Spans() {
        CountRule x = Check.county("ca33w0n2;c");
        due("31: its count", x.spans(0, 40), 1 << 4);
        due("31: none", x.spans(0, 41), 0);
        due("31: nothing", x.spans(0, 0), 1);
        x.months(2);
        x.law(Check.tell(x, 1, "y:w>0?99;y:c>50?a+m;y:k*n"));
        due("31: by age and month", x.spans(0, 37), 1 << 6 | 1 << 7 | 1 << 8 | 1 << 9);
        due("31: by nursery", x.spans(0, 10), 1 << 5);
        due("31: of another", x.spans(1, 0), 63);
        x.law(Check.tell(x, 1, "y:35"));
        due("31: within the count", x.spans(0, 20), 1 << 2);
        due("31: as it is told", x.spans(0, 35), 1 << 4 | 1 << 5 | 1 << 6 | 1 << 7 | 1 << 8 | 1 << 9);
        due("31: 99", x.spans(0, 99), 0);
        due("31: beyond", x.spans(0, 100), NONE);
        due("31: below", x.spans(0, -1), NONE);
        due("31: no such child", x.spans(2, 0), NONE);
    }

    private static void p32Chain() {
        CountRule x = Check.county("ca30k3;ca20k5;ca40k4;ca40k6;ca10k1;ca50k4w1");
        due("32: how many", x.chain(0), 3);
        due("32: who, the least", x.chain(1), 1 << 0 | 1 << 2 | 1 << 4);
        due("32: no such what", x.chain(2), NONE);
        due("32: below", x.chain(-1), NONE);
        due("32: no county", new CountRule().chain(0), NONE);
        due("32: alike", Check.county("ca3k1;ca3k2;ca4k1").chain(1), 1);
        due("32: the other way round", Check.county("ca4k3;ca3k2;ca2k1").chain(1), 7);
    }

    private static void p33ThreesPartyHeir() {
        CountRule x = Check.county("ca50k9y3n1;ca40k7y3n1w1;ca30k7y2n2;ca20k7w6y3;ca95k9;e");
        due("33: by threes alone", x.threes(), 2);
        due("33: no examiner", Check.county("c").threes(), NONE);
        due("34: nursery 1", x.party(1), 511);
        due("34: nursery 2", x.party(2), 127);
        due("34: wrong is not right", Check.county("ck3w1").party(0), 5);
        due("34: nobody there", x.party(4), 0);
        due("34: no such nursery", x.party(5), NONE);
        due("34: below", x.party(-1), NONE);
        due("34: no county", new CountRule().party(0), NONE);
        due("35: without a ruler", x.heir(), 1);
        x.months(1);
        due("35: but the ruler", x.heir(), 0);
        x.wrong(0, 0);
        due("35: nobody, since one is grown out", x.heir(), NONE);
        due("35: no examiner", Check.county("ck9").heir(), NONE);
        due("35: of several the lowest", Check.county("ca50k9;ca40k9;ca40k9;e").heir(), 1);
    }

    private static void p36Late() {
        due("36: none now", Check.county("c").late(), 0);
        due("36: never", Check.county("c;ef0").late(), NONE);
        due("36: one by one", Check.county("c;ef2k3").late(), 6);
        due("36: the later one", Check.county("c;ef2k3;ef1k5;ek0").late(), 6);
        due("36: not within sixty", Check.county("c;ef7k9").late(), NONE);
        CountRule x = Check.county("c;ef7k9;ru1");
        due("36: sixty-three", x.late(), NONE);
        x.months(3);
        due("36: sixty", x.late(), 60);
        x.months(4);
        due("36: by the month's number", x.late(), 56);
        due("36: apart", x.count(5), 7);
        due("36: no county", new CountRule().late(), NONE);
    }

    private static void p37BeforeWithoutSpoil() {
        CountRule x = Check.county("ck3;ck5;c;ck9w2;ea50k2;ea70k4;ea60k3;ea80k0");
        int[] before = {1 | 4 | 8, 15, 8, 1 | 8};
        int[] without = {2, 0, NONE, 2 | 4};
        int[] spoil = {NONE, 0, NONE, NONE};
        for (int child = 0; child < 4; child++) {
            due("37: " + child, x.before(child), before[child]);
            due("38: " + child, x.without(child), without[child]);
            due("39: " + child, x.spoil(child), spoil[child]);
        }
        due("37: no such child", x.before(4), NONE);
        due("38: no such child", x.without(-1), NONE);
        due("39: no such child", x.spoil(4), NONE);
        due("37: no elders", Check.county("c").before(0), 0);
        due("37: below", x.before(-1), NONE);
        due("39: below", x.spoil(-1), NONE);
        due("38: no elders", Check.county("ck9").without(0), NONE);
        due("39: no examiner", Check.county("ck9").spoil(0), NONE);
    }

    private static void p40Soon() {
        CountRule x = Check.county("ck3s4;ck9;ck2s3y2;ck3s5w1;ek6");
        due("40: three more", x.soon(0), 12);
        due("40: none", x.soon(1), 0);
        due("40: by twos", x.soon(2), 6);
        due("40: a wrong one", x.soon(3), 20);
        x.teach(0, 4);
        x.teach(2, 3);
        x.wrong(1, 8);
        x.teach(1, 8);
        x.months(1);
        due("40: in a lesson of it", x.soon(0), 3 + 8);
        due("40: in a lesson of another", x.soon(2), 2 + 6);
        due("40: wants none, whatever it learns", x.soon(1), 0);
        due("40: no such child", x.soon(4), NONE);
        due("40: no examiner", Check.county("c").soon(0), NONE);
    }

    private static void p41Fevered() {
        CountRule x = Check.county("ck9;ck9y2;ck9y3;ck7y2;e");
        due("41: by twos and threes", x.fevered(), 2 | 4);
        x = Check.county("ck9;ck6;e;ru7");
        due("41: ten 7 is not asked", x.fevered(), 1);
        due("41: apart", Check.child(x, 0, 1), 511);
        due("41: no examiner", Check.county("ck9").fevered(), NONE);
    }

    private static void p42YoungestAndRivals() {
        CountRule x = Check.county("ca30k9;ca20k9;ca30k9;ca10;ca95k9;ca99;e");
        int[] order = {3, 1, 0, 2, 4, 5};
        int[] rivals = {2, 0, 2, 0, 7, 7};
        for (int i = 0; i < 6; i++) {
            due("42: " + i, x.youngest(i), order[i]);
            due("44: " + i, x.rivals(i), rivals[i]);
        }
        due("42: no such one", x.youngest(6), NONE);
        due("42: below", x.youngest(-1), NONE);
        due("42: no county", new CountRule().youngest(0), NONE);
        due("44: no such child", x.rivals(6), NONE);
        due("44: below", x.rivals(-1), NONE);
        due("44: no examiner", Check.county("c").rivals(0), NONE);
    }

    private static void p43Richest() {
        CountRule x = Check.county("ck3;ek2");
        due("43: none", x.richest(24, 0), NONE);
        due("43: treasury", x.richest(24, 1), 720);
        due("43: one month", x.richest(1, 1), 30);
        Check.tell(x, 1, "y:c");
        Check.tell(x, 1, "y:5");
        x.law(1);
        due("43: no law is first of several", x.richest(2, 0), NONE);
        due("43: by that, not by the one that holds", x.richest(2, 1), 60);
        due("43: which holds still", x.count(4), 1);
        due("43: too many", x.richest(25, 0), HIDDEN);
        due("43: no months", x.richest(0, 0), HIDDEN);
        due("43: no such what", x.richest(1, 2), HIDDEN);
        due("43: what below", x.richest(1, -1), HIDDEN);
        due("43: no county", new CountRule().richest(1, 0), HIDDEN);
    }

    private static void p45Forgotten() {
        due("45: no elders", Check.county("c").forgotten(), 511);
        due("45: below u", Check.county("c;ru6;ek2;ek4").forgotten(), 16 | 32);
        due("45: all known", Check.county("c;ru6;ek2;ek6").forgotten(), 0);
        CountRule x = Check.county("c;ru3;ef1k3");
        x.months(2);
        due("45: as they forget", x.forgotten(), 6);
        due("45: no county", new CountRule().forgotten(), NONE);
    }

    private static void p46ImageAndBack() {
        CountRule x = Check.county("ca30k9;ca20s2;ef3;ru8");
        due("46: no county", new CountRule().image(), NONE);
        due("47: no image", x.back(), NONE);
        x.months(2);
        x.teach(1, 3);
        x.keep(1, 4, true);
        due("46: the month", x.image(), 2);
        due("46: acts can be undone", x.count(11), 4);
        x.wrong(0, 0);
        x.fever(9);
        x.months(60);
        x.months(60);
        due("47: the month", x.back(), 2);
        due("47: no act can be undone", x.undo(), NONE);
        due("47: acts", x.count(11), 0);
        due("47: treasury", x.count(7), 180);
        due("47: ruler", x.count(6), 0);
        due("47: log", x.count(10), 2);
        due("47: log's ruler", x.log(1, 0), 0);
        due("47: log's tax", x.log(1, 2), 90);
        due("47: not wrong", Check.child(x, 0, 2), 0);
        due("47: lesson", Check.child(x, 1, 7), 2);
        due("47: kept", Check.child(x, 1, 8), 16);
        due("47: the elder", x.elder(0, 2), 511);
        due("47: fever is not of the image", x.count(8), 9);
        x.months(5);
        due("47: again", x.back(), 2);
        x.months(1);
        due("46: instead of the one ahead", x.image(), 3);
        x.months(1);
        due("47: the later one", x.back(), 3);
        due("47: the elder forgot by then", x.elder(0, 2), 255);
        due("47: acts begin anew", x.wrong(0, 0), 1);
        x = Check.county("ca0k9;e");
        x.law(Check.tell(x, 1, "y:m"));
        x.months(58);
        x.image();
        x.law(NONE);
        x.back();
        x.months(60);
        x.back();
        for (int i = 0; i < 58; i++) {
            due("47: the whole log " + i, x.log(i, 2), 58 - i);
        }
    }

    private static void p48Count() {
        CountRule x = Check.county("ck4;ca20;ek3;e");
        Check.tell(x, 1, "y:3");
        Check.tell(x, 1, "y:4");
        x.law(1);
        x.fever(5);
        x.teach(1, 0);
        x.buy(1, 1);
        x.months(1);
        Check.feed(x, "abc");
        int[] counts = {2, 2, 2, 3, 1, 1, 0, 4, 5, 40, 1, 2};
        for (int what = 0; what < counts.length; what++) {
            due("48: count " + what, x.count(what), counts[what]);
        }
        due("48: beyond", x.count(12), HIDDEN);
        due("48: below", x.count(-1), HIDDEN);
        x.wrong(0, 2);
        due("48: length of the law", x.count(9), 20);
    }
}
