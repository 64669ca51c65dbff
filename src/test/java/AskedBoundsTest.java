/** The bounds that the document names for what is asked of the town: promises 5 to 10. */
public final class AskedBoundsTest {
    private static final Check C = new Check("AskedBoundsTest");

    public static void main(String[] args) {
        told();
        far();
        person();
        deed();
        trust();
        lets();
        smallest();
        lessThanBefore();
        C.end();
    }

    private static Run city(String sentence) {
        return new Run(C, sentence).town(Towns.CITY);
    }

    private static void told() {
        city("promise 5: what is 0 .. 12").is("told(-1) = OUTSIDE; told(0) = 7; told(12) = 0; told(13) = OUTSIDE; told(-2) = OUTSIDE;"
            + "told(MIN) = OUTSIDE; told(MAX) = OUTSIDE");
        city("promise 5: as many of all as there may be").is("told(0) = 7; told(1) = 6; told(2) = 6; told(3) = 4; told(5) = 0; told(6) = 6;"
            + "told(7) = NONE; told(8) = 0; told(9) = 0; told(10) = 0; told(11) = 0; told(12) = 0");
        new Run(C, "promise 5: all DONE").town(Towns.BENCH).is("lend(0); act(5); act(4); act(3); act(2); act(1); told(8) = 62;"
            + "told(10) = 495;"
            + "act(0); told(8) = 63; told(9) = 0; told(10) = 594; pass(999); told(8) = 63; told(9) = 0");
        new Run(C, "promise 5: all LAPSED").town(Towns.BENCH).is("pass(998); told(9) = 0; pass(1); told(9) = 63; told(8) = 0;"
            + "told(10) = 0");
        new Run(C, "promise 5: letters of THE TEXT").is("told(4) = 0; 250 * feed(32); told(4) = 250; feed(32) = FULL; told(4) = 250");
        new Run(C, "promise 5: the SQUARE, NONE without SQUARES").is("told(6) = NONE; told(7) = NONE; pass(1); told(6) = NONE");
        new Run(C, "promise 5: what was TOLD, entries of THE DIARY").town(Towns.BENCH)
            .is("6 * tell(0, 1); 15 * write(0, 1); told(11) = 6; told(12) = 15; tell(0, 1) = FULL; write(0, 1) = FULL; told(11) = 6;"
            + "told(12) = 15");
    }

    private static void far() {
        city("promise 6: SQUARES 0 .. 6").is("far(-1, 0) = UNKNOWN; far(0, 0) = 0; far(6, 0) = 180; far(7, 0) = UNKNOWN;"
            + "far(0, -1) = UNKNOWN; far(0, 6) = 180; far(6, 6) = 0; far(0, 7) = UNKNOWN; far(-1, -1) = UNKNOWN; far(7, 7) = UNKNOWN;"
            + "far(MIN, MAX) = UNKNOWN; far(MAX, 0) = UNKNOWN; far(0, MIN) = UNKNOWN");
        new Run(C, "promise 6: the fewest minutes").town("t4 0;w0 1 30;w0 2 10;w2 3 10;w3 1 9;")
            .is("far(0, 1) = 29; far(1, 0) = 29; far(2, 1) = 19; far(3, 0) = 20");
        new Run(C, "promise 6: as many minutes either way").town("t3 0;w0 1 30;w0 2 15;w2 1 15;").is("far(0, 1) = 30");
        new Run(C, "promise 6: NONE").town("t4 0;w0 1 30;w2 3 1;").is("far(0, 2) = NONE; far(2, 0) = NONE; far(1, 3) = NONE;"
            + "far(0, 1) = 30; far(3, 2) = 1; far(3, 3) = 0");
    }

    private static void person() {
        city("promise 7: PEOPLE 0 .. 5").is("person(-1, 0) = UNKNOWN; person(0, 0) = 0; person(5, 0) = 6; person(6, 0) = UNKNOWN;"
            + "person(MIN, 1) = UNKNOWN; person(MAX, 1) = UNKNOWN");
        city("promise 7: what is 0, 1").is("person(0, -1) = OUTSIDE; person(1, 0) = 1; person(1, 1) = 99; person(0, 1) = 0;"
            + "person(0, 2) = OUTSIDE; person(5, MIN) = OUTSIDE; person(5, MAX) = OUTSIDE");
        city("promise 7: UNKNOWN ahead of OUTSIDE").is("person(-1, -1) = UNKNOWN; person(-1, 2) = UNKNOWN; person(6, -1) = UNKNOWN;"
            + "person(6, 2) = UNKNOWN");
    }

    private static void deed() {
        city("promise 8: DEEDS 0 .. 5").is("deed(-1, 0) = UNKNOWN; deed(0, 0) = 0; deed(5, 0) = 4; deed(6, 0) = UNKNOWN;"
            + "deed(MIN, 6) = UNKNOWN; deed(MAX, 6) = UNKNOWN");
        city("promise 8: what is 0 .. 6").is("deed(1, -1) = OUTSIDE; deed(1, 0) = 5; deed(1, 1) = 30; deed(1, 2) = 999; deed(1, 3) = 99;"
            + "deed(1, 4) = NONE; deed(1, 5) = 0; deed(1, 6) = NONE; deed(1, 7) = OUTSIDE; deed(1, MIN) = OUTSIDE; deed(1, MAX) = OUTSIDE");
        city("promise 8: C at its bounds, NONE is not 0").is("deed(0, 4) = 0; deed(5, 4) = 99; deed(2, 4) = NONE");
        city("promise 8: UNKNOWN ahead of OUTSIDE").is("deed(-1, -1) = UNKNOWN; deed(-1, 7) = UNKNOWN; deed(6, -1) = UNKNOWN;"
            + "deed(6, 7) = UNKNOWN");
        city("promise 8: OPEN, LAPSED, DONE and when").is("deed(0, 5) = 0; pass(1); deed(0, 5) = 2; deed(0, 6) = NONE; lend(5) = 1;"
            + "act(1) = 31; deed(1, 5) = 1; deed(1, 6) = 31; pass(999); deed(1, 5) = 1; deed(1, 6) = 31; deed(2, 5) = 2;"
            + "deed(2, 6) = NONE");
    }

    private static void trust() {
        city("promise 9: PEOPLE 0 .. 5").is("trust(-1, 0) = UNKNOWN; trust(0, -1) = UNKNOWN; trust(6, 0) = UNKNOWN; trust(0, 6) = UNKNOWN;"
            + "trust(MIN, 0) = UNKNOWN; trust(0, MAX) = UNKNOWN; trust(-1, 6) = UNKNOWN");
        city("promise 9: Q at its bounds, NONE is not 0").is("trust(0, 5) = 10; trust(5, 0) = 0; trust(0, 1) = NONE; trust(4, 5) = NONE");
        city("refusals: one twice").is("trust(0, 0) = UNKNOWN; trust(5, 5) = UNKNOWN; trust(-1, -1) = UNKNOWN; trust(6, 6) = UNKNOWN");
    }

    private static void lets() {
        city("promise 10: OTHER WORDS 0 .. 3").is("lets(-1) = UNKNOWN; lets(0) = 1; lets(1) = 63; lets(2) = 32; lets(3) = 33;"
            + "lets(4) = UNKNOWN; lets(MIN) = UNKNOWN; lets(MAX) = UNKNOWN");
    }

    private static void smallest() {
        new Run(C, "one SQUARE and nothing else").town("t1 0;").is("told(0) = 1; told(1) = 0; told(2) = 0; told(3) = 0; told(6) = 0;"
            + "far(0, 0) = 0; far(0, 1) = UNKNOWN; far(1, 0) = UNKNOWN; person(0, 0) = UNKNOWN; deed(0, 0) = UNKNOWN; lets(0) = UNKNOWN;"
            + "trust(0, 1) = UNKNOWN; lend(0) = UNKNOWN; act(0) = UNKNOWN; lost(0) = UNKNOWN; sold(1, 0, 0) = UNKNOWN;"
            + "tell(0, 1) = UNKNOWN;"
            + "write(0, 1) = UNKNOWN; vote(0) = UNKNOWN; chain(0, 1, 0) = UNKNOWN; two(0) = 0; two(1) = UNKNOWN");
        new Run(C, "one PERSON").town("t1 0;p0 0;").is("person(0, 0) = 0; person(1, 0) = UNKNOWN; trust(0, 1) = UNKNOWN;"
            + "trust(0, 0) = UNKNOWN;"
            + "lend(1) = UNKNOWN; lost(0) = 0; lost(1) = UNKNOWN; sold(9, 0, 0) = 9; sold(9, 0, 1) = 0; sold(9, 1, 0) = UNKNOWN");
        new Run(C, "no SQUARES").is("far(0, 0) = UNKNOWN; person(0, 0) = UNKNOWN; deed(0, 0) = UNKNOWN; trust(0, 1) = UNKNOWN;"
            + "lets(0) = UNKNOWN; two(0) = UNKNOWN; thief(0, 0, 0, 0) = UNKNOWN; chain(0, 1, 0) = UNKNOWN; lost(0) = UNKNOWN;"
            + "tell(0, 1) = UNKNOWN; write(0, 1) = UNKNOWN; lend(0) = UNKNOWN; act(0) = UNKNOWN; sold(1, 0, 0) = UNKNOWN;"
            + "vote(0) = UNKNOWN");
    }

    /** What an older, larger town had is UNKNOWN in the next. */
    private static void lessThanBefore() {
        city("promise 3: what there was is gone").is("lend(5); keep(0)").town("t2 1;p0 3;p1 4;d1 2 9 5;o1;")
            .is("far(0, 1) = NONE; far(2, 0) = UNKNOWN; person(1, 1) = 4; person(2, 0) = UNKNOWN; deed(0, 0) = 1; deed(0, 4) = NONE;"
                + "deed(1, 0) = UNKNOWN; lets(0) = 1; lets(1) = UNKNOWN; trust(0, 1) = NONE; trust(0, 5) = UNKNOWN; lend(2) = UNKNOWN;"
                + "act(1) = UNKNOWN; told(7) = NONE; goBack(0) = NOT; lend(0) = NOT; lend(1) = 0");
    }
}
