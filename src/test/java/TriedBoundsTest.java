/** The bounds that the document names for what is tried from now: promises 16 to 24. */
public final class TriedBoundsTest {
    private static final Check C = new Check("TriedBoundsTest");
    private static final String SIX = "t1 0;p0 0;" + "d0 10 30 99;".repeat(6);

    public static void main(String[] args) {
        roundsAsked();
        roundsInTime();
        roundsOfLikeOnes();
        roundsOfWhatIsOpen();
        twoWords();
        rewordAsked();
        rewordBounds();
        chainsAsked();
        chainsBounds();
        lostBounds();
        soldAsked();
        soldBounds();
        thiefAsked();
        thiefBounds();
        voteBounds();
        bestWordBounds();
        C.end();
    }

    private static Run on(String text, String sentence) {
        return new Run(C, sentence).town(text);
    }

    private static void roundsAsked() {
        on(Towns.CITY, "promise 16: NONE, -2, else the i-th DEED; NONE: not so many").is("round(-1) = 103; round(-2) = 184; round(0) = 1;"
            + "round(1) = 5; round(2) = 4; round(3) = 3; round(4) = 2; round(5) = NONE; round(6) = NONE; round(7) = NONE;"
            + "round(-3) = NONE; round(MIN) = NONE; round(MAX) = NONE");
        on(Towns.BENCH, "promise 16: all DEEDS").is("round(-1) = 594; round(-2) = 6; round(0) = 0; round(5) = 5; round(6) = NONE");
        on("t1 0;", "promise 16: no DEEDS").is("round(-1) = 0; round(-2) = 0; round(0) = NONE; pass(7); round(-2) = 7; round(-1) = 0");
        new Run(C, "promise 16: no SQUARES").is("round(-1) = 0; round(-2) = 0; round(0) = NONE; pass(7); round(-2) = 7");
    }

    private static void roundsInTime() {
        String alone = "t2 0;w0 1 8;p1 0;d0 2 10 5;";
        on(alone, "behind D at the latest: at D").is("round(-1) = 5; round(-2) = 10; round(0) = 0");
        on(alone, "behind D at the latest: above D").is("pass(1); told(9) = 0; round(-1) = 0; round(-2) = 1; round(0) = NONE");
        on("t1 0;p0 0;d0 4 4 5;d0 3 7 5;", "the second at D").is("round(-1) = 10; round(-2) = 7; round(0) = 0; round(1) = 1;"
            + "round(2) = NONE");
        on("t1 0;p0 0;d0 4 4 5;d0 3 6 5;", "the second above D").is("round(-1) = 5; round(-2) = 3; round(0) = 1; round(1) = NONE");
        on(SIX, "the third at D").is("round(-1) = 297; round(-2) = 30; round(0) = 0; round(1) = 1; round(2) = 2; round(3) = NONE");
        on(SIX, "the third above D").is("pass(1); round(-1) = 198; round(-2) = 21; round(0) = 0; round(1) = 1; round(2) = NONE");
        on("t2 0;p0 0;p1 0;d0 1 9 1;d1 1 9 9;", "no WAYS lead there").is("round(-1) = 1; round(-2) = 1; round(0) = 0; round(1) = NONE");
        on("t1 0;p0 0;d0 1 999 99;", "the latest of all").is("pass(998); round(-1) = 99; round(-2) = 999; pass(1); round(-1) = 0;"
            + "round(-2) = 999");
    }

    private static void roundsOfLikeOnes() {
        on("t1 0;p0 0;d0 5 5 7;d0 4 4 7;d0 4 4 6;", "of like ones what ends soonest").is("round(-1) = 7; round(-2) = 4; round(0) = 1");
        on("t1 0;p0 0;d0 4 4 7;d0 4 4 7;", "then the first").is("round(-1) = 7; round(-2) = 4; round(0) = 0; round(1) = NONE");
        on("t1 0;p0 0;d0 2 4 7;d0 2 2 7;", "the first only of those in time").is("round(-1) = 14; round(-2) = 4; round(0) = 1;"
            + "round(1) = 0");
        on("t1 0;p0 0;d0 1 9 0;d0 1 9 0;", "V 0 is had without DEEDS").is("round(-1) = 0; round(-2) = 0; round(0) = NONE");
        on("t1 0;p0 0;d0 1 9 0;d0 1 9 1;", "V 1 is more than 0").is("round(-1) = 1; round(-2) = 1; round(0) = 1; round(1) = NONE");
        on("t3 0;w0 1 1;w1 2 1;w2 0 1;p1 0;p2 0;d0 1 9 5;d1 1 9 5;", "DEED by DEED the lesser").is("round(-1) = 10; round(-2) = 4;"
            + "round(0) = 0; round(1) = 1");
    }

    private static void roundsOfWhatIsOpen() {
        on("t1 0;p0 0;d0 2 4 9;d0 2 9 5;", "with DEEDS that are OPEN: not DONE").is("lend(0); act(0); round(-1) = 5; round(-2) = 4;"
            + "round(0) = 1; act(1);"
            + "round(-1) = 0; round(-2) = 4; round(0) = NONE");
        on("t1 0;p0 0;d0 2 4 9;d0 2 9 5;", "with DEEDS that are OPEN: not LAPSED").is("pass(2); round(-1) = 14; round(0) = 0; pass(1);"
            + "round(-1) = 5; round(-2) = 5;"
            + "round(0) = 1; pass(4); told(5) = 7; round(-1) = 5; round(-2) = 9; pass(1); round(-1) = 0; round(-2) = 8");
        on("t2 0;w0 1 8;p1 0;p0 0;d0 2 10 5;", "THE WORD from where it is, HELD or not").is("lend(0); told(5) = 8; round(-1) = 5;"
            + "round(-2) = 10; drop();"
            + "round(-1) = 5; round(-2) = 10");
    }

    private static void twoWords() {
        on(Towns.CITY, "promise 17: SQUARES 0 .. 6").is("two(-1) = UNKNOWN; two(0) = 103; two(6) = 103; two(7) = UNKNOWN;"
            + "two(MIN) = UNKNOWN; two(MAX) = UNKNOWN");
        on("t1 0;", "promise 17: one SQUARE").is("two(0) = 0; two(1) = UNKNOWN; two(-1) = UNKNOWN");
        new Run(C, "promise 17: no SQUARES").is("two(0) = UNKNOWN; two(-1) = UNKNOWN");
        on(SIX, "promise 17: three each at D").is("two(0) = 594; round(-1) = 297; pass(1); two(0) = 396; pass(20); told(9) = 63;"
            + "two(0) = 0");
        on("t2 0;w0 1 5;p1 0;d0 4 9 7;", "promise 17: each behind D at the latest").is("two(0) = 7; two(1) = 7; pass(1); two(0) = 0;"
            + "two(1) = 7; pass(4); two(1) = 7;"
            + "pass(1); two(1) = 0");
        on("t1 0;p0 0;d0 4 4 7;", "promise 17: no DEED twice").is("two(0) = 7");
        on("t1 0;p0 0;d0 4 4 7;d0 4 4 5;d0 4 4 6;", "promise 17: V together at most").is("two(0) = 13");
        on("t3 0;p1 0;p2 0;d0 1 9 7;d1 1 9 5;", "promise 17: no WAYS lead there").is("two(0) = 0; two(1) = 7; two(2) = 5");
        on("t2 0;p0 0;d0 5 5 7;d0 5 10 1;", "promise 17: the one does all").is("two(1) = 8; two(0) = 8");
        on("t2 0;p1 0;d0 5 5 7;d0 5 10 1;", "promise 17: the other does all").is("two(1) = 8; two(0) = 0");
        on("t1 0;p0 0;d0 2 9 9;d0 2 9 5;", "promise 17: what is DONE is not tried").is("lend(0); act(0); two(0) = 5");
    }

    private static void rewordAsked() {
        on(Towns.MARKET, "promise 18: what = 0, 1").is("reword(-1) = OUTSIDE; reword(0) = 2; reword(1) = 2; reword(2) = OUTSIDE;"
            + "reword(MIN) = OUTSIDE; reword(MAX) = OUTSIDE");
        new Run(C, "promise 18: no SQUARES").is("reword(0) = 0; reword(1) = 0; reword(2) = OUTSIDE; reword(-1) = OUTSIDE");
    }

    private static void rewordBounds() {
        String far = "t2 0;p1 0;" + "d0 1 9 1;".repeat(6);
        on(far + "r0 99;r1 99;r2 99;r3 99;r4 99;r5 99;", "promise 18: all must be reworded").is("reword(0) = 63; reword(1) = 594;"
            + "pass(9); reword(0) = 0; reword(1) = 0");
        on(far + "r0 99;r1 99;r2 99;r3 99;r4 99;", "promise 18: NONE, one cannot be").is("reword(0) = NONE; reword(1) = NONE; pass(9);"
            + "reword(0) = 0; reword(1) = 0");
        on(far + "r0 0;r1 0;r2 0;r3 0;r4 0;r5 0;", "promise 18: for nothing").is("reword(0) = 63; reword(1) = 0");
        on(Towns.CITY, "promise 18: C of 0 is told").is("reword(0) = 1; reword(1) = 0; pass(1); reword(0) = 0; reword(1) = 0");
        on("t1 0;p0 0;d0 5 5 1;d0 5 10 1;r0 3;r1 3;", "promise 18: all are done at D").is("reword(0) = 0; reword(1) = 0");
        on("t1 0;p0 0;d0 5 5 1;d0 5 9 1;r0 3;r1 3;", "promise 18: of like ones the least SET").is("reword(0) = 1; reword(1) = 3");
        on("t1 0;p0 0;d0 5 5 1;d0 5 9 1;r0 3;r1 2;", "promise 18: of least cost").is("reword(0) = 2; reword(1) = 2");
        on("t1 0;p0 0;d0 5 5 1;d0 5 9 1;d0 5 5 1;r0 1;r1 3;r2 2;", "promise 18: two are less than one").is("reword(0) = 5; reword(1) = 3");
        on("t1 0;p0 0;d0 5 5 1;d0 5 9 1;r1 99;", "promise 18: only what can be reworded").is("reword(0) = 2; reword(1) = 99; lend(0);"
            + "act(0); told(9) = 2;"
            + "reword(0) = 0; reword(1) = 0");
        on("t1 0;p0 0;d0 5 5 1;r0 0;", "promise 18: the least SET is none").is("reword(0) = 0; reword(1) = 0");
    }

    private static void chainsAsked() {
        on(Towns.CITY, "promise 19: PEOPLE 0 .. 5").is("chain(-1, 0, 0) = UNKNOWN; chain(0, -1, 0) = UNKNOWN; chain(6, 0, 0) = UNKNOWN;"
            + "chain(0, 6, 0) = UNKNOWN;"
            + "chain(MIN, 0, 1) = UNKNOWN; chain(0, MAX, 1) = UNKNOWN; chain(0, 5, 0) = 1000000000; chain(5, 0, 0) = 0");
        on(Towns.CITY, "promise 19: what = 0, 1").is("chain(0, 5, -1) = OUTSIDE; chain(0, 5, 0) = 1000000000; chain(0, 5, 1) = 2;"
            + "chain(0, 5, 2) = OUTSIDE;"
            + "chain(0, 1, 2) = OUTSIDE; chain(0, 5, MIN) = OUTSIDE; chain(0, 5, MAX) = OUTSIDE");
        on(Towns.CITY, "refusals: one twice").is("chain(0, 0, 0) = UNKNOWN; chain(0, 0, 1) = UNKNOWN; chain(5, 5, 0) = UNKNOWN;"
            + "chain(6, 6, 0) = UNKNOWN");
        on(Towns.CITY, "promise 19: UNKNOWN ahead of OUTSIDE").is("chain(0, 0, 2) = UNKNOWN; chain(5, 5, -1) = UNKNOWN;"
            + "chain(-1, 0, 2) = UNKNOWN;"
            + "chain(0, 6, -1) = UNKNOWN; chain(6, -1, 2) = UNKNOWN");
    }

    private static void chainsBounds() {
        String six = "t1 0;" + "p0 0;".repeat(6);
        on(Towns.CITY, "promise 19: odds 0 are a CHAIN, NONE is none").is("chain(5, 0, 0) = 0; chain(5, 0, 1) = 2;"
            + "chain(0, 1, 0) = NONE; chain(0, 1, 1) = NONE;"
            + "chain(1, 0, 0) = NONE");
        on(six + "q0 1 1;q1 2 1;q2 3 1;q3 4 1;q4 5 1;", "the longest CHAIN of the least Q").is("chain(0, 5, 0) = 10000;"
            + "chain(0, 5, 1) = 6; chain(0, 4, 0) = 100000;"
            + "chain(5, 0, 0) = NONE");
        on(six + "q5 4 10;q4 3 10;q3 2 10;q2 1 10;q1 0 10;", "the longest CHAIN of the greatest Q").is("chain(5, 0, 0) = 1000000000;"
            + "chain(5, 0, 1) = 6");
        on(six + "q0 1 9;q1 2 9;q2 3 9;q3 4 9;q4 5 9;", "Q / 10 for each").is("chain(0, 1, 0) = 900000000; chain(0, 2, 0) = 810000000;"
            + "chain(0, 3, 0) = 729000000;"
            + "chain(0, 4, 0) = 656100000; chain(0, 5, 0) = 590490000");
        on(six + "q0 1 10;q1 2 10;q0 2 10;", "of like ones of the fewest PEOPLE").is("chain(0, 2, 0) = 1000000000; chain(0, 2, 1) = 2");
        on(six + "q0 1 10;q0 2 10;q2 1 10;", "of like ones of the fewest PEOPLE").is("chain(0, 1, 0) = 1000000000; chain(0, 1, 1) = 2");
        on(six + "q0 1 10;q1 2 10;q0 2 9;", "the greatest odds ahead of fewer PEOPLE").is("chain(0, 2, 0) = 1000000000;"
            + "chain(0, 2, 1) = 3");
        on(six + "q0 1 0;q1 2 10;q0 2 0;", "of like odds 0 of the fewest PEOPLE").is("chain(0, 2, 0) = 0; chain(0, 2, 1) = 2");
    }

    private static void lostBounds() {
        on(Towns.CITY, "promise 20: PEOPLE 0 .. 5").is("lost(-1) = UNKNOWN; lost(0) = 30; lost(5) = 31; lost(6) = UNKNOWN;"
            + "lost(MIN) = UNKNOWN; lost(MAX) = UNKNOWN");
        on("t1 0;p0 0;", "promise 20: never a").is("lost(0) = 0; lost(1) = UNKNOWN");
        on("t1 0;p0 0;p0 0;q0 1 1;q1 0 0;", "promise 20: odds above 0").is("lost(0) = 0; lost(1) = 1");
        on("t1 0;" + "p0 0;".repeat(6) + "q0 1 1;q1 2 1;q2 3 1;q3 4 1;q4 5 1;", "promise 20: by the longest CHAIN").is("lost(0) = 0;"
            + "lost(1) = 1; lost(5) = 31");
        on("t1 0;p0 0;p0 0;p0 0;q0 1 0;q0 2 1;q2 1 1;", "promise 20: by another CHAIN").is("lost(0) = 0; lost(1) = 5; lost(2) = 1");
        new Run(C, "promise 20: no PEOPLE").is("lost(0) = UNKNOWN; lost(-1) = UNKNOWN");
    }

    private static void soldAsked() {
        on(Towns.CITY, "promise 21: n 1 .. 9").is("sold(0, 1, 0) = OUTSIDE; sold(-1, 1, 0) = OUTSIDE; sold(1, 1, 0) = 1;"
            + "sold(9, 1, 0) = 9; sold(10, 1, 0) = OUTSIDE;"
            + "sold(MIN, 1, 0) = OUTSIDE; sold(MAX, 1, 1) = OUTSIDE");
        on(Towns.CITY, "promise 21: PEOPLE 0 .. 5").is("sold(1, -1, 0) = UNKNOWN; sold(1, 0, 0) = 0; sold(1, 5, 0) = 0;"
            + "sold(1, 6, 0) = UNKNOWN;"
            + "sold(1, MIN, 0) = UNKNOWN; sold(1, MAX, 0) = UNKNOWN");
        on(Towns.CITY, "promise 21: what = 0, 1").is("sold(1, 1, -1) = OUTSIDE; sold(1, 1, 0) = 1; sold(1, 1, 1) = 5;"
            + "sold(1, 1, 2) = OUTSIDE; sold(1, 1, MIN) = OUTSIDE;"
            + "sold(1, 1, MAX) = OUTSIDE; sold(0, 1, 2) = OUTSIDE");
        on(Towns.CITY, "promise 21: UNKNOWN ahead of OUTSIDE").is("sold(0, 6, 0) = UNKNOWN; sold(10, -1, 0) = UNKNOWN;"
            + "sold(1, 6, 2) = UNKNOWN; sold(1, -1, -1) = UNKNOWN;"
            + "sold(0, 6, 2) = UNKNOWN");
    }

    private static void soldBounds() {
        on(Towns.CITY, "the second bid").is("sold(9, 1, 1) = 45; sold(9, 2, 0) = 0; sold(9, 2, 1) = 0");
        on("t1 0;p0 99;", "0, if he is alone").is("sold(1, 0, 0) = 1; sold(1, 0, 1) = 0; sold(9, 0, 0) = 9; sold(9, 0, 1) = 0");
        on("t1 0;p0 5;p0 5;", "of like ones the least; 1 less for each minute").is("sold(1, 0, 0) = 1; sold(1, 0, 1) = 5;"
            + "sold(1, 1, 0) = 0; sold(2, 1, 0) = 1; sold(2, 1, 1) = 4;"
            + "sold(4, 0, 0) = 2; sold(4, 0, 1) = 9; sold(4, 1, 0) = 2; sold(4, 1, 1) = 7");
        on("t1 0;p0 1;p0 0;", "0 at least: he bids on").is("sold(1, 0, 1) = 0; sold(3, 0, 0) = 3; sold(9, 0, 0) = 9; sold(9, 0, 1) = 0;"
            + "sold(9, 1, 0) = 0");
        on("t1 0;p0 1;p0 1;", "0 at least: nobody is paid").is("sold(2, 1, 0) = 1; sold(2, 1, 1) = 0; sold(9, 0, 0) = 8;"
            + "sold(9, 0, 1) = 1; sold(9, 1, 0) = 1; sold(9, 1, 1) = 0");
        on("t1 0;p0 8;p0 0;", "down to like bids").is("sold(8, 0, 0) = 8; sold(9, 0, 0) = 9; sold(9, 0, 1) = 0");
        on("t1 0;p0 0;p0 8;", "down to like bids, the other is the least").is("sold(8, 1, 0) = 8; sold(9, 1, 0) = 8; sold(9, 0, 0) = 1");
        on("t1 0;p0 1;p0 2;p0 3;p0 4;p0 5;p0 6;", "six PEOPLE").is("sold(1, 5, 0) = 1; sold(1, 5, 1) = 5; sold(2, 4, 0) = 1;"
            + "sold(2, 4, 1) = 5; sold(3, 5, 0) = 2;"
            + "sold(3, 5, 1) = 9; sold(3, 3, 0) = 0; sold(4, 3, 0) = 1; sold(4, 3, 1) = 4");
    }

    private static void thiefAsked() {
        on(Towns.CITY, "promise 22: SQUARES 0 .. 6").is("thief(-1, 0, 0, 0) = UNKNOWN; thief(7, 0, 0, 0) = UNKNOWN;"
            + "thief(0, -1, 0, 0) = UNKNOWN; thief(0, 7, 0, 0) = UNKNOWN;"
            + "thief(0, 0, -1, 0) = UNKNOWN; thief(0, 0, 7, 0) = UNKNOWN; thief(MIN, 0, 0, 0) = UNKNOWN; thief(0, MAX, 0, 0) = UNKNOWN;"
            + "thief(0, 0, MIN, 0) = UNKNOWN;"
            + "thief(6, 6, 6, 0) = 2; thief(6, 0, 6, 0) = 1; thief(0, 6, 0, 0) = 1");
        on(Towns.CITY, "promise 22: what = 0, 1").is("thief(0, 6, 6, -1) = OUTSIDE; thief(0, 6, 6, 0) = 2; thief(0, 6, 6, 1) = 6;"
            + "thief(0, 6, 6, 2) = OUTSIDE;"
            + "thief(0, 0, 0, MIN) = OUTSIDE; thief(0, 0, 0, MAX) = OUTSIDE");
        on(Towns.CITY, "promise 22: UNKNOWN ahead of OUTSIDE").is("thief(-1, 0, 0, 2) = UNKNOWN; thief(0, 7, 0, -1) = UNKNOWN;"
            + "thief(0, 0, 7, 2) = UNKNOWN;"
            + "thief(0, 0, -1, -1) = UNKNOWN");
        new Run(C, "promise 22: no SQUARES").is("thief(0, 0, 0, 0) = UNKNOWN; thief(0, 0, 0, 2) = UNKNOWN");
    }

    private static void thiefBounds() {
        on("t1 0;", "one SQUARE: caught at first, on g too").is("thief(0, 0, 0, 0) = 2; thief(0, 0, 0, 1) = 0");
        on("t2 0;w0 1 30;", "caught at first: 0 turns").is("thief(0, 0, 1, 0) = 2; thief(0, 0, 1, 1) = 0; thief(1, 1, 1, 0) = 2;"
            + "thief(1, 1, 1, 1) = 0");
        on("t2 0;w0 1 30;", "he ESCAPES at first: 0 turns").is("thief(1, 0, 1, 0) = 1; thief(1, 0, 1, 1) = 0");
        on("t2 0;w0 1 30;", "g, not alone: caught").is("thief(0, 1, 1, 0) = 2; thief(0, 1, 1, 1) = 1");
        on("t2 0;", "neither: NONE").is("thief(0, 1, 1, 0) = 0; thief(0, 1, 1, 1) = NONE; thief(0, 1, 0, 0) = 1; thief(0, 1, 0, 1) = 0");
        on("t3 0;w0 1 30;w1 2 1;", "the THIEF first, whatever the length").is("thief(0, 2, 1, 0) = 1; thief(0, 2, 1, 1) = 1;"
            + "thief(2, 0, 1, 0) = 1; thief(2, 0, 1, 1) = 1");
        on("t3 0;w0 1 1;w1 2 1;w2 0 1;", "the turn it ends in counts").is("thief(0, 1, 2, 0) = 1; thief(0, 1, 2, 1) = 1;"
            + "thief(0, 2, 2, 0) = 2; thief(0, 2, 2, 1) = 1");
        on(Towns.CITY, "the one makes it least, the other most").is("thief(0, 5, 6, 0) = 2; thief(0, 5, 6, 1) = 5;"
            + "thief(5, 0, 6, 0) = 1; thief(5, 0, 6, 1) = 1;"
            + "thief(1, 0, 6, 0) = 1; thief(1, 0, 6, 1) = 5; thief(0, 1, 6, 0) = 2; thief(0, 1, 6, 1) = 1");
        on(Towns.CITY, "another g: what was solved before does not stay").is("thief(2, 0, 6, 1) = 4; thief(2, 0, 4, 1) = 2;"
            + "thief(2, 0, 3, 1) = 1;"
            + "thief(2, 0, 2, 1) = 0; thief(0, 2, 6, 1) = 2; thief(2, 0, 5, 1) = 3; thief(4, 6, 0, 1) = 4; thief(2, 0, 6, 1) = 4");
        on("t5 0;w0 1 1;w1 2 1;w2 3 1;w3 0 1;", "a ring: neither").is("thief(0, 2, 4, 0) = 0; thief(0, 2, 4, 1) = NONE;"
            + "thief(0, 1, 4, 0) = 0");
        on("t4 0;w0 1 1;w1 2 1;w2 0 1;", "three of a ring: caught").is("thief(0, 1, 3, 0) = 2; thief(0, 1, 3, 1) = 1");
    }

    private static void voteBounds() {
        on(Towns.CITY, "promise 23: NONE, OTHER WORDS 0 .. 3").is("vote(-2) = UNKNOWN; vote(-1) = 1; vote(0) = 0; vote(1) = 5;"
            + "vote(2) = 0; vote(3) = 0; vote(4) = UNKNOWN;"
            + "vote(MIN) = UNKNOWN; vote(MAX) = UNKNOWN");
        on(Towns.CITY, "promise 23: NONE without votes").is("pass(999); vote(-1) = NONE; vote(0) = 0; vote(3) = 0; vote(4) = UNKNOWN");
        on("t1 0;p0 0;d0 1 9 5;", "promise 23: no OTHER WORDS").is("vote(-1) = NONE; vote(0) = UNKNOWN; vote(-2) = UNKNOWN");
        on("t1 0;p0 0;d0 1 9 0;o1;", "promise 23: for none, if that is 0").is("vote(-1) = NONE; vote(0) = 0");
        on("t1 0;p0 0;d0 1 9 1;o1;", "promise 23: for one, if that is 1").is("vote(-1) = 0; vote(0) = 1");
        on("t1 0;p0 0;d0 1 9 5;o1;o1;", "promise 23: of like ones he takes the least").is("vote(-1) = 0; vote(0) = 1; vote(1) = 0");
        on("t1 0;p0 0;p0 0;d0 1 9 1;d1 1 9 9;o2;o1;", "promise 23: of like ones the least wins").is("vote(-1) = 0; vote(0) = 1;"
            + "vote(1) = 1");
        on("t1 0;p0 0;p0 0;d0 1 9 9;d1 1 9 1;o1;o2;", "promise 23: by his own DEEDS").is("vote(-1) = 0; vote(0) = 1; vote(1) = 1");
        on("t1 0;p0 0;p0 0;p0 0;d0 1 9 1;d1 1 9 1;d2 1 9 9;o4;o3;", "promise 23: votes win, not V").is("vote(-1) = 1; vote(0) = 1;"
            + "vote(1) = 2; bestWord() = 0");
        on("t1 0;p0 0;d0 1 3 5;d0 1 9 4;o1;o2;", "promise 23: OPEN DEEDS").is("pass(2); vote(0) = 1; vote(1) = 0; pass(1); vote(0) = 0;"
            + "vote(1) = 1; vote(-1) = 1; lend(0); act(1);"
            + "vote(1) = 0; vote(-1) = NONE");
        on("t1 0;" + "p0 0;".repeat(6) + "d0 1 9 1;d1 1 9 1;d2 1 9 1;d3 1 9 1;d4 1 9 1;d5 1 9 1;o63;", "promise 23: all vote")
            .is("vote(-1) = 0; vote(0) = 6");
        new Run(C, "promise 23: no SQUARES").is("vote(-1) = NONE; vote(0) = UNKNOWN");
    }

    private static void bestWordBounds() {
        new Run(C, "promise 24: no SQUARES").is("bestWord() = NONE");
        on("t1 0;p0 0;d0 1 9 5;", "promise 24: NONE, no OTHER WORDS").is("bestWord() = NONE");
        on("t1 0;p0 0;d0 1 9 0;o1;", "promise 24: V 0 is most").is("bestWord() = 0");
        on("t1 0;p0 0;d0 1 9 0;d0 1 9 1;o1;o2;", "promise 24: V 1 is more").is("bestWord() = 1");
        on("t1 0;p0 0;d0 1 9 5;d0 1 9 5;o2;o1;", "promise 24: of like ones the least").is("bestWord() = 0");
        on("t1 0;p0 0;d0 1 9 1;d0 1 9 2;d0 1 9 3;d0 1 9 7;o1;o2;o4;o8;", "promise 24: the last of four").is("bestWord() = 3; pass(9);"
            + "bestWord() = 0");
        on("t1 0;p0 0;d0 1 3 5;d0 1 9 4;o1;o2;", "promise 24: OPEN DEEDS").is("pass(2); bestWord() = 0; pass(1); bestWord() = 1;"
            + "lend(0); act(1); bestWord() = 0");
    }
}
