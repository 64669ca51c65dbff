/** Promises 1 to 10: a new object, the text and its faults, what was told. */
public final class TownTest {
    private static final Check C = new Check("TownTest");
    private static final int NONE = LoneAdjective.NONE, UNKNOWN = LoneAdjective.UNKNOWN, OUTSIDE = LoneAdjective.OUTSIDE,
        FULL = LoneAdjective.FULL;

    public static void main(String[] args) {
        newObject();
        feeding();
        townBegins();
        faultLeavesAll();
        faultOne();
        faultTwo();
        faultThree();
        faultFour();
        goodTexts();
        olderTexts();
        toldEdges();
        farAndPeople();
        deedsTrustWords();
        C.end();
    }

    private static void newObject() {
        LoneAdjective x = new LoneAdjective();
        int[] first = {0, 0, 0, 0, 0, 0, NONE, NONE, 0, 0, 0, 0, 0};
        for (int what = 0; what < first.length; what++) {
            C.due("new told(" + what + ")", x.told(what), first[what]);
        }
        C.due("new fault", x.fault(), NONE);
        C.due("new far", x.far(0, 0), UNKNOWN);
        C.due("new person", x.person(0, 0), UNKNOWN);
        C.due("new deed", x.deed(0, 0), UNKNOWN);
        C.due("new trust", x.trust(0, 0), UNKNOWN);
        C.due("new lets", x.lets(0), UNKNOWN);
        C.due("new seed", x.seed(0), 0);
        C.due("NONE", NONE, -1);
        C.due("UNKNOWN", UNKNOWN, -1000000001);
        C.due("OUTSIDE", OUTSIDE, -1000000002);
        C.due("NOT", LoneAdjective.NOT, -1000000003);
        C.due("FULL", FULL, -1000000004);
    }

    private static void feeding() {
        LoneAdjective x = new LoneAdjective();
        C.due("feed(-1)", x.feed(-1), OUTSIDE);
        C.due("feed(256)", x.feed(256), OUTSIDE);
        C.due("told(4)", x.told(4), 0);
        C.due("feed(0)", x.feed(0), 1);
        C.due("feed(255)", x.feed(255), 2);
        for (int k = 3; k <= 250; k++) {
            C.due("feed " + k, x.feed(32), k);
        }
        C.due("feed 251", x.feed(32), FULL);
        C.due("OUTSIDE ahead of FULL", x.feed(300), OUTSIDE);
        C.due("letters", x.told(4), 250);
        C.due("town of letter 0", x.town(), -11);
        C.due("its fault", x.fault(), 0);
        C.due("letters behind it", x.told(4), 0);
        C.due("feed anew", x.feed('t'), 1);
    }

    private static void townBegins() {
        LoneAdjective x = Check.townOf(Towns.MARKET);
        x.seed(77);
        x.lend(0);
        x.act(0);
        x.tell(0, 2);
        x.write(0, 2);
        x.keep(0);
        x.keep(1);
        Check.feed(x, "t3 2;p1 4;d0 1 5 6;");
        C.due("second town", x.town(), 1);
        int[] due = {3, 1, 1, 0, 0, 0, 2, NONE, 0, 0, 0, 0, 0};
        for (int what = 0; what < due.length; what++) {
            C.due("second told(" + what + ")", x.told(what), due[what]);
        }
        C.due("no image 0", x.goBack(0), LoneAdjective.NOT);
        C.due("no image 1", x.goBack(1), LoneAdjective.NOT);
        C.due("ways are gone", x.far(0, 1), NONE);
        C.due("rewording is gone", x.deed(0, 4), NONE);
        C.due("the seed stays", x.seed(1), 77);
        C.due("no letters: no squares", x.town(), 0);
        C.due("squares", x.told(0), 0);
        C.due("the word", x.told(6), NONE);
        C.due("far", x.far(0, 0), UNKNOWN);
    }

    private static void faultLeavesAll() {
        LoneAdjective x = Check.townOf(Towns.MARKET);
        x.lend(1);
        x.tell(0, 2);
        x.write(0, 2);
        x.write(1, 2);
        x.keep(1);
        Check.feed(x, "t2 1;w0 1 4;p0 9;d0 1 1 1;x");
        C.due("town", x.town(), -11);
        C.due("fault", x.fault(), 26);
        int[] due = {5, 4, 4, 2, 0, 3, 1, 1, 0, 0, 0, 1, 2};
        for (int what = 0; what < due.length; what++) {
            C.due("told(" + what + ") behind a fault", x.told(what), due[what]);
        }
        C.due("far", x.far(0, 2), 7);
        C.due("image", x.goBack(1), 1);
        Check.feed(x, "t1 0;");
        C.due("good town", x.town(), 0);
        C.due("no fault", x.fault(), NONE);
    }

    /** A text in which ^ stands ahead of the letter that has the fault. */
    private static void faulty(int number, String marked) {
        int at = marked.indexOf('^');
        LoneAdjective x = new LoneAdjective();
        Check.feed(x, marked.substring(0, at) + marked.substring(at + 1));
        C.due("town of " + marked, x.town(), -10 - number);
        C.due("fault of " + marked, x.fault(), at);
        C.due("letters behind " + marked, x.told(4), 0);
    }

    private static void faultOne() {
        faulty(1, "^w0 1 1;");
        faulty(1, "  ^p0 1;");
        faulty(1, "^x");
        faulty(1, "^;");
        faulty(1, "^5");
        faulty(1, "^T2 0;");
        faulty(1, "t^");
        faulty(1, "t ^;");
        faulty(1, "t2^");
        faulty(1, "t2 ^;");
        faulty(1, "t2 0^");
        faulty(1, "t2 0  ^");
        faulty(1, "t2 0 ^1;");
        faulty(1, "t2 0^t");
        faulty(1, "t2 ^t0;");
        faulty(1, "t1^x0;");
        faulty(1, "t2 0;^;");
        faulty(1, "t2 0;^7");
        faulty(1, "t2 0;^x");
        faulty(1, "t2 0;w0 1^\t3;");
        faulty(1, "t2 0;w0 1 3^");
        faulty(1, "t2 0;w0 ^-1 3;");
        faulty(1, "t2 0;^\u00e9");
        faulty(1, "t2 0;p0 1;d0 1 1^;");
        faulty(1, "t2 0;p0 1;d0 1 1 1 ^1;");
    }

    private static void faultTwo() {
        String ahead = "t2 0;p0 1;p1 1;d0 1 1 1;";
        faulty(2, "t^0 0;");
        faulty(2, "t^8 0;");
        faulty(2, "t^8x");
        faulty(2, "t^20;");
        faulty(2, "t^0002 0;");
        faulty(2, "t2 ^2;");
        faulty(2, "t2 ^0000;");
        faulty(2, "t2 ^00000000000000000000000000000000000");
        faulty(2, "t2 0;w^2 0 1;");
        faulty(2, "t2 0;w0 ^2 1;");
        faulty(2, "t2 0;w0 1 ^0;");
        faulty(2, "t2 0;w0 1 ^31;");
        faulty(2, "t2 0;p^2 0;");
        faulty(2, "t2 0;p1 ^100;");
        faulty(2, "t2 0;d^0 1 1 1;");
        faulty(2, ahead + "d^2 1 1 1;");
        faulty(2, ahead + "d0 ^0 1 1;");
        faulty(2, ahead + "d0 ^31 1 1;");
        faulty(2, ahead + "d0 1 ^0 1;");
        faulty(2, ahead + "d0 1 ^1000 1;");
        faulty(2, ahead + "d0 1 1 ^100;");
        faulty(2, ahead + "r^1 1;");
        faulty(2, ahead + "r0 ^100;");
        faulty(2, ahead + "q^2 0 1;");
        faulty(2, ahead + "q0 ^2 1;");
        faulty(2, ahead + "q0 1 ^11;");
        faulty(2, ahead + "q0 ^0000 1;");
        faulty(2, ahead + "o^0;");
        faulty(2, ahead + "o^2;");
        faulty(2, ahead + "o^64;");
        faulty(2, "t2 0;o^1;");
    }

    private static void faultThree() {
        faulty(3, "t1 0;^t");
        faulty(3, "t1 0;^t1 0;");
        faulty(3, "t1 0;p0 0;p0 0;p0 0;p0 0;p0 0;p0 0; ^p");
        String deed = "d0 1 1 1;";
        faulty(3, "t1 0;p0 0;" + deed + deed + deed + deed + deed + deed + "^d9");
        faulty(3, "t6 0;w0 1 1;w0 2 1;w0 3 1;w0 4 1;w0 5 1;w1 2 1;w1 3 1;w1 4 1;w1 5 1;w2 3 1;^w0 0 0;");
        faulty(3, "t1 0;p0 0;d0 1 1 1;o1;o1;o1;o1;^o1;");
        faulty(3, "t1 0;p0 0;p0 0;p0 0;p0 0;q0 1 1;q0 2 1;q0 3 1;q1 0 1;q1 2 1;q1 3 1;q2 0 1;q2 1 1;q2 3 1;"
            + "q3 0 1;q3 1 1;q3 2 1;^q0 1 1;");
        // 'r' has no count: a seventh is at fault by its deed.
        faulty(4, "t1 0;p0 0;" + deed + deed + deed + deed + deed + deed + "r0 1;r1 1;r2 1;r3 1;r4 1;r5 1;r^0 1;");
    }

    private static void faultFour() {
        faulty(4, "t2 0;w0 ^0 1;");
        faulty(4, "t2 0;w0 1 1;w0 ^1 2;");
        faulty(4, "t2 0;w0 1 1;w1 ^0 99;");
        faulty(4, "t1 0;p0 0;d0 1 1 1;r0 0;r^0 2;");
        faulty(4, "t1 0;p0 0;q0 ^0 1;");
        faulty(4, "t1 0;p0 0;p0 0;q0 1 0;q0 ^1 2;");
    }

    private static void good(String text, int deeds) {
        LoneAdjective x = new LoneAdjective();
        Check.feed(x, text);
        C.due("town of " + text, x.town(), deeds);
        C.due("fault of " + text, x.fault(), NONE);
    }

    private static void goodTexts() {
        good("", 0);
        good("   ", 0);
        good("t7 6;", 0);
        good("  t  7  6  ;  ", 0);
        good("t007 006;w000 001 030;p6 99;d0 30 999 99;d0 1 1 0;r1 0;r0 99;o3;o1;", 2);
        good("t2 0;p0 0;p1 0;q0 1 10;q1 0 0;", 0);
        good("t1 0;p0 0;d0 1 1 1;d0 1 1 1;d0 1 1 1;d0 1 1 1;d0 1 1 1;d0 1 1 1;o63;o63;o1;o32;", 6);
    }

    /** What an older text left behind the end of the new one is not read. */
    private static void olderTexts() {
        LoneAdjective x = Check.townOf("t1 0;p0 0;d0 1 1 1;o1;");
        Check.feed(x, "t1 0");
        C.due("the old ';' is gone", x.town(), -11);
        C.due("fault", x.fault(), 4);
        Check.feed(x, "t77777777");
        x.town();
        Check.feed(x, "t1 ");
        C.due("the old figures are gone", x.town(), -11);
        C.due("fault", x.fault(), 3);
        Check.feed(x, "t1 0;");
        C.due("town", x.town(), 0);
        C.due("no people", x.told(1), 0);
        C.due("no deeds", x.told(2), 0);
        C.due("no words", x.told(3), 0);
        Check.feed(x, "t1 0;p0 5;p0 6;d0 1 1 1;o1;");
        C.due("town", x.town(), 1);
        Check.feed(x, "t1 0;p0 0;p0 0;p0 0;d1 1 1 1;d1 1 1 1;o2;o3;x");
        C.due("fault", x.town(), -11);
        Check.feed(x, "t2 1;p1 9;");
        C.due("town", x.town(), 0);
        C.due("one person", x.told(1), 1);
        C.due("no words", x.told(3), 0);
        C.due("his square", x.person(0, 0), 1);
    }

    private static void toldEdges() {
        LoneAdjective x = Check.townOf(Towns.MARKET);
        C.due("told(-1)", x.told(-1), OUTSIDE);
        C.due("told(13)", x.told(13), OUTSIDE);
        C.due("told(max)", x.told(Integer.MAX_VALUE), OUTSIDE);
        C.due("told(min)", x.told(Integer.MIN_VALUE), OUTSIDE);
        int[] first = {5, 4, 4, 2, 0, 0, 0, NONE, 0, 0, 0, 0, 0};
        for (int what = 0; what < first.length; what++) {
            C.due("told(" + what + ")", x.told(what), first[what]);
        }
        x.feed('t');
        x.pass(8);
        x.lend(1);
        x.tell(1, 9);
        x.write(2, 0);
        x.write(2, 1);
        int[] later = {5, 4, 4, 2, 1, 11, 1, 1, 0, 3, 0, 1, 2};
        for (int what = 0; what < later.length; what++) {
            C.due("later told(" + what + ")", x.told(what), later[what]);
        }
    }

    private static void farAndPeople() {
        LoneAdjective x = Check.townOf(Towns.MARKET);
        int[][] far = {{0, 3, 7, 9, NONE}, {3, 0, 4, 6, NONE}, {7, 4, 0, 2, NONE}, {9, 6, 2, 0, NONE}, {NONE, NONE, NONE, NONE, 0}};
        for (int a = 0; a < 5; a++) {
            for (int b = 0; b < 5; b++) {
                C.due("far(" + a + ", " + b + ")", x.far(a, b), far[a][b]);
            }
        }
        C.due("far(5, 0)", x.far(5, 0), UNKNOWN);
        C.due("far(0, 5)", x.far(0, 5), UNKNOWN);
        C.due("far(-1, 0)", x.far(-1, 0), UNKNOWN);
        C.due("far(0, min)", x.far(0, Integer.MIN_VALUE), UNKNOWN);
        LoneAdjective way = Check.townOf("t4 0;w0 1 30;w0 2 1;w2 3 1;w3 1 1;");
        C.due("round about is nearer", way.far(0, 1), 3);
        C.due("and back", way.far(1, 0), 3);
        C.due("by square 0", Check.townOf("t3 1;w0 1 2;w0 2 3;").far(1, 2), 5);
        C.due("person(2, 0)", x.person(2, 0), 3);
        C.due("person(2, 1)", x.person(2, 1), 2);
        C.due("person(3, 0)", x.person(3, 0), 4);
        C.due("person(0, 2)", x.person(0, 2), OUTSIDE);
        C.due("person(0, -1)", x.person(0, -1), OUTSIDE);
        C.due("person(4, 0)", x.person(4, 0), UNKNOWN);
        C.due("person(-1, 9)", x.person(-1, 9), UNKNOWN);
    }

    private static void deedsTrustWords() {
        LoneAdjective x = Check.townOf(Towns.MARKET);
        int[][] deeds = {{0, 2, 9, 5, 4, 0, NONE}, {1, 3, 12, 8, 2, 0, NONE}, {2, 4, 20, 9, NONE, 0, NONE}, {2, 5, 18, 1, NONE, 0, NONE}};
        for (int i = 0; i < 4; i++) {
            for (int what = 0; what < 7; what++) {
                C.due("deed(" + i + ", " + what + ")", x.deed(i, what), deeds[i][what]);
            }
        }
        C.due("deed(0, 7)", x.deed(0, 7), OUTSIDE);
        C.due("deed(0, -1)", x.deed(0, -1), OUTSIDE);
        C.due("deed(4, 0)", x.deed(4, 0), UNKNOWN);
        C.due("deed(-1, 7)", x.deed(-1, 7), UNKNOWN);
        LoneAdjective late = Check.townOf("t1 0;p0 0;d0 30 1 1;d0 30 30 1;");
        C.due("never in time", late.deed(0, 5), 2);
        C.due("just in time", late.deed(1, 5), 0);
        C.due("trust(0, 1)", x.trust(0, 1), 9);
        C.due("trust(1, 0)", x.trust(1, 0), NONE);
        C.due("trust(0, 0)", x.trust(0, 0), UNKNOWN);
        C.due("trust(3, 3)", x.trust(3, 3), UNKNOWN);
        C.due("trust(4, 0)", x.trust(4, 0), UNKNOWN);
        C.due("trust(0, 4)", x.trust(0, 4), UNKNOWN);
        C.due("trust(-1, 0)", x.trust(-1, 0), UNKNOWN);
        C.due("lets(0)", x.lets(0), 3);
        C.due("lets(1)", x.lets(1), 12);
        C.due("lets(2)", x.lets(2), UNKNOWN);
        C.due("lets(-1)", x.lets(-1), UNKNOWN);
    }
}
