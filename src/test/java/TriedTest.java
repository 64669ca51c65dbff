/** Promises 16 to 24: what is tried from now. */
public final class TriedTest {
    private static final Check C = new Check("TriedTest");
    private static final int NONE = LoneAdjective.NONE, UNKNOWN = LoneAdjective.UNKNOWN, OUTSIDE = LoneAdjective.OUTSIDE;
    private static final int BILLION = 1000000000;

    public static void main(String[] args) {
        bestRounds();
        roundsFromNow();
        twoWords();
        rewording();
        bestChains();
        lostPeople();
        selling();
        thieves();
        votes();
        bestWords();
        nothingChanges();
        C.end();
    }

    private static void round(String name, LoneAdjective x, int worth, int end, int... row) {
        C.due("round(-1) of " + name, x.round(-1), worth);
        C.due("round(-2) of " + name, x.round(-2), end);
        for (int k = 0; k <= row.length; k++) {
            C.due("round(" + k + ") of " + name, x.round(k), k < row.length ? row[k] : NONE);
        }
    }

    private static void round(String text, int worth, int end, int... row) {
        round(text, Check.townOf(text), worth, end, row);
    }

    private static void bestRounds() {
        round(Towns.MARKET, 22, 18, 0, 1, 2);
        round("", 0, 0);
        round("t1 0;", 0, 0);
        // Of like V what ends sooner, then the lesser; what is worth nothing is left.
        round("t1 0;p0 0;d0 3 3 5;d0 2 2 5;", 5, 2, 1);
        round("t1 0;p0 0;d0 2 9 5;d0 2 9 5;", 10, 4, 0, 1);
        round("t1 0;p0 0;d0 2 2 5;d0 2 2 5;", 5, 2, 0);
        round("t1 0;p0 0;d0 1 9 0;", 0, 0);
        round("t1 0;p0 0;d0 1 9 0;d0 1 9 1;", 1, 1, 1);
        round("t2 0;p1 0;d0 1 9 1;", 0, 0);
        round("t2 0;w0 1 8;p1 0;d0 1 9 1;", 1, 9, 0);
        round("t2 0;w0 1 9;p1 0;d0 1 9 1;", 0, 0);
        round("t1 0;p0 0;d0 1 999 9;d0 2 999 9;d0 3 999 9;d0 4 999 9;d0 5 999 9;d0 6 6 9;", 54, 21, 5, 0, 1, 2, 3, 4);
        LoneAdjective x = Check.townOf(Towns.MARKET);
        C.due("round(-3)", x.round(-3), NONE);
        C.due("round(max)", x.round(Integer.MAX_VALUE), NONE);
        C.due("round(min)", x.round(Integer.MIN_VALUE), NONE);
    }

    private static void roundsFromNow() {
        LoneAdjective x = Check.townOf(Towns.MARKET);
        x.pass(5);
        x.lend(1);
        // At minute 8: deed 1 would end at 11, 2 at 18, 3 at 19 (late), 2 behind 1 at 21 (late).
        round("the market at 8", x, 9, 18, 2);
        LoneAdjective y = Check.townOf(Towns.MARKET);
        y.lend(0);
        y.act(0);
        round("the market without deed 0", y, 17, 18, 1, 2);
        y.pass(999);
        round("the market when all is over", y, 0, 1001);
    }

    private static void twoWords() {
        LoneAdjective x = Check.townOf(Towns.MARKET);
        C.due("two(0)", x.two(0), 23);
        C.due("two(3)", x.two(3), 23);
        C.due("two(4)", x.two(4), 22);
        C.due("two(5)", x.two(5), UNKNOWN);
        C.due("two(-1)", x.two(-1), UNKNOWN);
        x.pass(9);
        // At minute 9 the one on 0 does nothing in time, the other does 2 (13), 3 (18).
        C.due("two(3) at 9", x.two(3), 10);
        C.due("two(1) at 9", x.two(1), 9);
        C.due("no deed twice", Check.townOf("t1 0;p0 0;d0 5 5 7;").two(0), 7);
        C.due("one each", Check.townOf("t1 0;p0 0;d0 5 5 7;d0 5 5 6;d0 5 5 5;").two(0), 13);
        C.due("no deeds", Check.townOf("t1 0;").two(0), 0);
        C.due("only the one gets there", Check.townOf("t2 0;p0 0;d0 5 5 7;d0 5 10 1;").two(1), 8);
        C.due("only the other gets there", Check.townOf("t2 0;p1 0;d0 5 5 7;d0 5 10 1;").two(1), 8);
        C.due("no squares", new LoneAdjective().two(0), UNKNOWN);
    }

    private static void reword(String text, int set, int cost) {
        LoneAdjective x = Check.townOf(text);
        C.due("reword(0) of " + text, x.reword(0), set);
        C.due("reword(1) of " + text, x.reword(1), cost);
    }

    private static void rewording() {
        reword(Towns.MARKET, 2, 2);
        reword("", 0, 0);
        reword("t1 0;p0 0;d0 5 5 1;r0 0;", 0, 0);
        reword("t1 0;p0 0;d0 5 5 1;d0 5 5 1;", NONE, NONE);
        reword("t1 0;p0 0;d0 5 5 1;d0 5 5 1;r0 3;r1 3;", 1, 3);
        reword("t1 0;p0 0;d0 5 5 1;d0 5 5 1;r0 3;r1 2;", 2, 2);
        reword("t1 0;p0 0;d0 5 5 1;d0 5 5 1;r0 0;r1 0;", 1, 0);
        reword("t2 0;p1 0;d0 1 9 1;r0 7;", 1, 7);
        reword("t2 0;p1 0;d0 1 9 1;d0 1 9 1;r0 7;", NONE, NONE);
        reword("t1 0;p0 0;d0 9 3 1;", 0, 0);
        reword("t1 0;p0 0;d0 4 8 1;d0 4 8 1;d0 4 8 1;r0 9;r1 4;r2 5;", 2, 4);
        LoneAdjective x = Check.townOf(Towns.MARKET);
        C.due("reword(2)", x.reword(2), OUTSIDE);
        C.due("reword(-1)", x.reword(-1), OUTSIDE);
        x.pass(8);
        C.due("too late for 2 and 3", x.reword(0), NONE);
        x.pass(9);
        C.due("lapsed is not asked for", x.reword(0), 0);
    }

    private static void chain(String text, int a, int b, int odds, int people) {
        LoneAdjective x = Check.townOf(text);
        C.due("chain(" + a + ", " + b + ", 0) of " + text, x.chain(a, b, 0), odds);
        C.due("chain(" + a + ", " + b + ", 1) of " + text, x.chain(a, b, 1), people);
    }

    private static void bestChains() {
        String three = "t1 0;p0 0;p0 0;p0 0;";
        chain(Towns.MARKET, 0, 1, 900000000, 2);
        chain(Towns.MARKET, 0, 2, 450000000, 3);
        chain(Towns.MARKET, 2, 0, NONE, NONE);
        chain(Towns.MARKET, 0, 3, NONE, NONE);
        chain(Towns.MARKET, 0, 0, UNKNOWN, UNKNOWN);
        chain(Towns.MARKET, 3, 3, UNKNOWN, UNKNOWN);
        chain(three + "q0 1 10;q1 2 10;q0 2 10;", 0, 2, BILLION, 2);
        chain(three + "q0 1 10;q0 2 10;q2 1 10;", 0, 1, BILLION, 2);
        chain(three + "q0 1 10;q1 2 10;q0 2 9;", 0, 2, BILLION, 3);
        chain(three + "q1 0 7;q0 2 5;", 1, 2, 350000000, 3);
        chain(three + "q0 1 0;", 0, 1, 0, 2);
        chain(three + "q0 1 0;q1 2 5;q0 2 0;", 0, 2, 0, 2);
        chain(three + "q0 1 0;q1 2 5;", 0, 2, 0, 3);
        chain(three + "p0 0;p0 0;p0 0;q0 1 1;q1 2 1;q2 3 1;q3 4 1;q4 5 1;", 0, 5, 10000, 6);
        LoneAdjective x = Check.townOf(Towns.MARKET);
        C.due("chain(4, 0, 0)", x.chain(4, 0, 0), UNKNOWN);
        C.due("chain(0, 4, 0)", x.chain(0, 4, 0), UNKNOWN);
        C.due("chain(0, -1, 5)", x.chain(0, -1, 5), UNKNOWN);
        C.due("chain(0, 0, 2)", x.chain(0, 0, 2), UNKNOWN);
        C.due("chain(0, 1, 2)", x.chain(0, 1, 2), OUTSIDE);
        C.due("chain(0, 1, -1)", x.chain(0, 1, -1), OUTSIDE);
    }

    private static void lostPeople() {
        LoneAdjective x = Check.townOf(Towns.MARKET);
        C.due("lost(0)", x.lost(0), 8);
        C.due("lost(1)", x.lost(1), 9);
        C.due("lost(2)", x.lost(2), 11);
        C.due("lost(3)", x.lost(3), 7);
        C.due("lost(4)", x.lost(4), UNKNOWN);
        C.due("lost(-1)", x.lost(-1), UNKNOWN);
        C.due("odds 0", Check.townOf("t1 0;p0 0;p0 0;p0 0;q0 1 0;q1 2 9;").lost(0), 6);
        C.due("round about", Check.townOf("t1 0;p0 0;p0 0;p0 0;q0 1 0;q0 2 1;q2 1 1;").lost(0), 0);
    }

    private static void selling() {
        LoneAdjective x = Check.townOf(Towns.MARKET);
        int[][] minutes = {{0, 3}, {1, 5}, {0, 0}, {0, 1}};
        int[][] pays = {{0, 18}, {7, 30}, {0, 0}, {0, 4}};
        for (int p = 0; p < 4; p++) {
            C.due("sold(1, " + p + ", 0)", x.sold(1, p, 0), minutes[p][0]);
            C.due("sold(1, " + p + ", 1)", x.sold(1, p, 1), pays[p][0]);
            C.due("sold(9, " + p + ", 0)", x.sold(9, p, 0), minutes[p][1]);
            C.due("sold(9, " + p + ", 1)", x.sold(9, p, 1), pays[p][1]);
        }
        LoneAdjective alone = Check.townOf("t1 0;p0 1;");
        C.due("alone", alone.sold(3, 0, 0), 3);
        C.due("he pays", alone.sold(3, 0, 1), 0);
        LoneAdjective poor = Check.townOf("t1 0;p0 0;p0 0;");
        C.due("of like ones the least", poor.sold(9, 0, 0), 9);
        C.due("for nothing", poor.sold(9, 0, 1), 0);
        C.due("the other", poor.sold(9, 1, 0), 0);
        LoneAdjective six = Check.townOf("t1 0;p0 1;p0 2;p0 3;p0 4;p0 5;p0 6;");
        C.due("six people", six.sold(1, 5, 1), 5);
        Check.feed(six, "t1 0;p0 1;p0 2;");
        six.town();
        C.due("who is gone does not bid", six.sold(1, 1, 1), 1);
        C.due("sold(0, 0, 0)", x.sold(0, 0, 0), OUTSIDE);
        C.due("sold(10, 0, 0)", x.sold(10, 0, 0), OUTSIDE);
        C.due("sold(1, 0, 2)", x.sold(1, 0, 2), OUTSIDE);
        C.due("sold(1, 0, -1)", x.sold(1, 0, -1), OUTSIDE);
        C.due("sold(0, 4, 9)", x.sold(0, 4, 9), UNKNOWN);
        C.due("sold(1, -1, 0)", x.sold(1, -1, 0), UNKNOWN);
    }

    private static void thief(LoneAdjective x, int a, int b, int g, int end, int turns) {
        String call = "thief(" + a + ", " + b + ", " + g + ", ";
        C.due(call + "0)", x.thief(a, b, g, 0), end);
        C.due(call + "1)", x.thief(a, b, g, 1), turns);
    }

    private static void thieves() {
        LoneAdjective path = Check.townOf("t4 0;w0 1 30;w1 2 1;");
        thief(path, 0, 2, 3, 2, 2);
        thief(path, 0, 1, 3, 2, 1);
        thief(path, 1, 1, 2, 2, 0);
        thief(path, 2, 2, 2, 2, 0);
        thief(path, 2, 0, 2, 1, 0);
        thief(path, 1, 0, 2, 1, 1);
        thief(path, 0, 1, 2, 2, 1);
        thief(path, 0, 2, 2, 2, 2);
        thief(path, 0, 3, 2, 1, 2);
        thief(path, 3, 0, 0, 0, NONE);
        LoneAdjective ring = Check.townOf("t5 0;w0 1 1;w1 2 1;w2 3 1;w3 0 1;");
        thief(ring, 0, 2, 4, 0, NONE);
        thief(ring, 0, 1, 4, 0, NONE);
        LoneAdjective street = Check.townOf("t7 0;w0 1 1;w1 2 1;w2 3 1;w3 4 1;w4 5 1;w5 6 1;");
        thief(street, 0, 6, 6, 2, 6);
        thief(street, 3, 0, 6, 1, 3);
        LoneAdjective market = Check.townOf(Towns.MARKET);
        thief(market, 0, 2, 3, 1, 1);
        thief(market, 1, 0, 3, 0, NONE);
        C.due("thief(5, 0, 0, 0)", market.thief(5, 0, 0, 0), UNKNOWN);
        C.due("thief(0, 5, 0, 0)", market.thief(0, 5, 0, 0), UNKNOWN);
        C.due("thief(0, 0, -1, 7)", market.thief(0, 0, -1, 7), UNKNOWN);
        C.due("thief(0, 0, 0, 2)", market.thief(0, 0, 0, 2), OUTSIDE);
        C.due("thief(0, 0, 0, -1)", market.thief(0, 0, 0, -1), OUTSIDE);
    }

    private static void vote(LoneAdjective x, int winner, int... votes) {
        C.due("vote(-1)", x.vote(-1), winner);
        for (int o = 0; o < votes.length; o++) {
            C.due("vote(" + o + ")", x.vote(o), votes[o]);
        }
        C.due("vote(" + votes.length + ")", x.vote(votes.length), UNKNOWN);
        C.due("vote(-2)", x.vote(-2), UNKNOWN);
    }

    private static void votes() {
        LoneAdjective x = Check.townOf(Towns.MARKET);
        vote(x, 0, 2, 1);
        x.pass(8);
        vote(x, 0, 1, 1);
        x.pass(9);
        vote(x, NONE, 0, 0);
        vote(new LoneAdjective(), NONE);
        vote(Check.townOf("t1 0;p0 0;d0 1 9 5;o1;o1;"), 0, 1, 0);
        vote(Check.townOf("t1 0;p0 0;p0 0;d0 1 9 5;d1 1 9 7;o2;o1;"), 0, 1, 1);
        vote(Check.townOf("t1 0;p0 0;d0 1 9 0;o1;"), NONE, 0);
        vote(Check.townOf("t1 0;p0 0;p0 0;d0 1 9 5;d0 1 9 2;d0 1 9 4;d1 1 9 1;o1;o6;o8;"), 1, 0, 1, 1);
    }

    private static void bestWords() {
        LoneAdjective x = Check.townOf(Towns.MARKET);
        C.due("bestWord", x.bestWord(), 0);
        x.pass(8);
        C.due("bestWord at 8", x.bestWord(), 1);
        x.pass(9);
        C.due("bestWord at 17, all worth 0", x.bestWord(), 0);
        C.due("no words", Check.townOf("t1 0;p0 0;d0 1 9 5;").bestWord(), NONE);
        C.due("of all people", Check.townOf("t1 0;p0 0;p0 0;d0 1 9 5;d1 1 9 7;o1;o2;").bestWord(), 1);
        C.due("of like ones the least", Check.townOf("t1 0;p0 0;d0 1 9 5;d0 1 9 5;o2;o1;").bestWord(), 0);
        LoneAdjective y = Check.townOf("t1 0;p0 0;d0 1 9 9;d0 1 9 5;o1;o2;");
        y.lend(0);
        y.act(0);
        C.due("without what is done", y.bestWord(), 1);
    }

    private static void nothingChanges() {
        LoneAdjective x = Check.townOf(Towns.MARKET);
        x.lend(1);
        x.act(1);
        int[] before = new int[13];
        for (int what = 0; what < 13; what++) {
            before[what] = x.told(what);
        }
        x.round(-1);
        x.two(3);
        x.reword(0);
        x.chain(0, 2, 0);
        x.lost(0);
        x.sold(9, 1, 1);
        x.thief(0, 2, 3, 1);
        x.vote(-1);
        x.bestWord();
        x.days();
        x.where(5);
        for (int what = 0; what < 13; what++) {
            C.due("told(" + what + ") behind tries", x.told(what), before[what]);
        }
        C.due("the seed behind tries", x.seed(1), 0);
    }
}
