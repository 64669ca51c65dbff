/** The bounds that the document names for what is done, for draws and for images: promises 11 to 15 and 31 to 33. */
public final class DoneBoundsTest {
    private static final Check C = new Check("DoneBoundsTest");
    private static final String TO_90000 = "90 * pass(999); pass(90) = 90000;";

    public static void main(String[] args) {
        lending();
        lendingLate();
        doing();
        lapsing();
        dropping();
        passing();
        drifting();
        driftingAndLapsing();
        driftingWithoutWays();
        seeds();
        images();
        whatImagesKeep();
        beginnings();
        C.end();
    }

    private static Run on(String text, String sentence) {
        return new Run(C, sentence).town(text);
    }

    private static void lending() {
        on(Towns.MARKET, "promise 11: PEOPLE 0 .. 3").is("lend(-1) = UNKNOWN; lend(4) = UNKNOWN; lend(MIN) = UNKNOWN; lend(MAX) = UNKNOWN;"
            + "told(7) = NONE; lend(0) = 0; told(7) = 0; lend(2) = 9; told(6) = 3; told(7) = 2");
        on(Towns.CITY, "promise 11: FAR minutes pass, none to one's own SQUARE").is("lend(5) = 0; lend(0) = 180; told(6) = 0;"
            + "lend(0) = 180; lend(1) = 210");
        on(Towns.MARKET, "promise 11: NOT, no WAYS lead there").is("lend(3) = NOT; told(5) = 0; told(6) = 0; told(7) = NONE; lend(1);"
            + "lend(3) = NOT;"
            + "told(5) = 3; told(6) = 1; told(7) = 1");
        on("t2 1;p0 0;p1 0;p1 0;", "promise 11: no WAYS at all").is("lend(0) = NOT; lend(1) = 0; lend(0) = NOT; told(7) = 1;"
            + "lend(2) = 0; told(7) = 2");
    }

    private static void lendingLate() {
        on(Towns.CITY, "promise 11: FULL, MINUTES are above 90000").is(TO_90000 + "keep(0); lend(5) = 90000; lend(0) = 90180;"
            + "lend(0) = FULL;"
            + "lend(5) = FULL; told(5) = 90180; told(6) = 0; told(7) = 0; goBack(0); pass(1) = 90001; lend(5) = FULL; lend(0) = FULL;"
            + "told(6) = 6; told(7) = NONE");
        on(Towns.MARKET, "promise 11: UNKNOWN, NOT ahead of FULL").is(TO_90000 + "lend(3) = NOT; pass(1) = 90001; lend(3) = NOT;"
            + "lend(-1) = UNKNOWN;"
            + "lend(4) = UNKNOWN; lend(0) = FULL");
    }

    private static void doing() {
        on(Towns.MARKET, "promise 12: DEEDS 0 .. 3").is("lend(0); act(-1) = UNKNOWN; act(4) = UNKNOWN; act(MIN) = UNKNOWN;"
            + "act(MAX) = UNKNOWN;"
            + "told(5) = 0; act(0) = 2; lend(2); act(3) = 16");
        on(Towns.MARKET, "promise 12: NOT, nobody HOLDS it").is("act(0) = NOT; lend(0); drop(); act(0) = NOT; told(5) = 0; told(8) = 0");
        on("t1 0;p0 0;p0 0;d0 2 9 1;", "promise 12: NOT, another one HOLDS it there").is("lend(1); act(0) = NOT; told(5) = 0;"
            + "lend(0) = 0; act(0) = 2");
        on(Towns.MARKET, "promise 12: NOT, it is DONE").is("lend(0); act(0) = 2; act(0) = NOT; deed(0, 6) = 2; told(5) = 2");
        on(Towns.BENCH, "promise 12: all DEEDS, one behind the other").is("lend(0); act(5) = 1; act(0) = 2; act(4) = 3; act(1) = 4;"
            + "act(3) = 5; act(2) = 6;"
            + "deed(5, 6) = 1; deed(2, 6) = 6; act(5) = NOT; told(7) = 0");
    }

    private static void lapsing() {
        String text = "t1 0;p0 0;d0 3 10 1;d0 1 1 1;d0 30 30 1;d0 30 29 1;d0 1 999 1;";
        on(text, "LAPSE as soon as MINUTES are above D less M: at minute 0").is("told(9) = 8; deed(3, 5) = 2; lend(0); act(3) = NOT;"
            + "keep(0);"
            + "act(1) = 1; deed(1, 5) = 1; goBack(0); act(2) = 30; deed(2, 5) = 1; deed(2, 6) = 30");
        on(text, "LAPSE as soon as MINUTES are above D less M: at minute 1").is("lend(0); pass(1); told(9) = 14; act(1) = NOT;"
            + "act(2) = NOT; told(5) = 1");
        on(text, "LAPSE as soon as MINUTES are above D less M: at D less M").is("lend(0); pass(6); keep(0); deed(0, 5) = 0; act(0) = 9;"
            + "goBack(0);"
            + "pass(1) = 7; deed(0, 5) = 0; act(0) = 10; deed(0, 5) = 1; deed(0, 6) = 10; goBack(0); pass(2) = 8; deed(0, 5) = 2;"
            + "act(0) = NOT; deed(0, 6) = NONE");
        on(text, "LAPSE at the last minute of all").is("lend(0); pass(998); keep(1); deed(4, 5) = 0; act(4) = 999; told(9) = 15;"
            + "goBack(1); pass(1) = 999;"
            + "deed(4, 5) = 2; act(4) = NOT; told(9) = 31");
        on("t1 0;p0 0;d0 2 9 1;d0 1 2 1;d0 1 3 1;", "others LAPSE while one is done").is("lend(0); told(9) = 0; act(0) = 2;"
            + "told(9) = 2; act(1) = NOT; act(2) = 3; told(9) = 2");
        on("t2 0;w0 1 5;p1 0;d0 2 6 1;d0 2 7 1;", "DEEDS LAPSE while it is walked").is("told(9) = 0; lend(0) = 5; told(9) = 1;"
            + "act(0) = NOT; act(1) = 7");
        on("t2 0;w0 1 5;p0 0;p1 0;d0 1 999 1;d1 2 7 1;", "what is DONE does not LAPSE").is("lend(1); act(1) = 7; pass(999);"
            + "told(8) = 2; told(9) = 1; deed(1, 5) = 1");
    }

    private static void dropping() {
        new Run(C, "promise 13: without SQUARES").is("drop() = NONE; told(6) = NONE; told(7) = NONE");
        on(Towns.MARKET, "promise 13: who HELD it (NONE)").is("drop() = NONE; lend(0); drop() = 0; drop() = NONE; told(7) = NONE;"
            + "lend(2) = 9; drop() = 2; told(6) = 3;"
            + "told(5) = 9; drop() = NONE; lend(2) = 9; told(7) = 2");
    }

    private static void passing() {
        on(Towns.MARKET, "promise 14: n 1 .. 999").is("pass(0) = OUTSIDE; pass(-1) = OUTSIDE; pass(1000) = OUTSIDE;"
            + "pass(MIN) = OUTSIDE; pass(MAX) = OUTSIDE;"
            + "told(5) = 0; pass(1) = 1; pass(999) = 1000; pass(1000) = OUTSIDE; told(5) = 1000");
        on("t1 0;", "promise 14: FULL, MINUTES are above 90000").is(TO_90000 + "keep(0); pass(999) = 90999; pass(1) = FULL;"
            + "pass(999) = FULL; goBack(0);"
            + "pass(1) = 90001; pass(1) = FULL; told(5) = 90001");
        on("t1 0;", "promise 14: OUTSIDE ahead of FULL").is(TO_90000 + "pass(1); pass(0) = OUTSIDE; pass(1000) = OUTSIDE;"
            + "pass(-1) = OUTSIDE; pass(2) = FULL; told(5) = 90001");
        new Run(C, "promise 14: without SQUARES").is("pass(999) = 999; pass(0) = OUTSIDE; pass(1) = 1000");
    }

    private static void drifting() {
        on("t1 0;p0 0;", "promise 15: n 1 .. 30").is("drift(0) = OUTSIDE; drift(-1) = OUTSIDE; drift(31) = OUTSIDE;"
            + "drift(MIN) = OUTSIDE; drift(MAX) = OUTSIDE;"
            + "told(5) = 0; told(7) = NONE; seed(0) = 0; drift(1) = 1; told(7) = 0; drift(30) = 31; drift(31) = OUTSIDE; told(5) = 31");
        on("t1 0;", "promise 15: NOT, no PEOPLE").is("drift(1) = NOT; drift(30) = NOT; told(5) = 0; seed(0) = 0; drift(0) = OUTSIDE;"
            + "drift(31) = OUTSIDE");
        on("t1 0;p0 0;", "promise 15: FULL, MINUTES are above 90000").is(TO_90000 + "keep(0); drift(30) = 90030; drift(1) = FULL;"
            + "goBack(0); drift(1) = 90001;"
            + "seed(12345) = 12345; drift(1) = FULL; drift(30) = FULL; told(5) = 90001; seed(0) = 12345");
        on("t1 0;p0 0;", "promise 15: OUTSIDE ahead of FULL").is(TO_90000 + "pass(1); drift(0) = OUTSIDE; drift(31) = OUTSIDE;"
            + "drift(30) = FULL");
        on("t1 0;", "promise 15: OUTSIDE, NOT ahead of FULL").is(TO_90000 + "pass(1); drift(0) = OUTSIDE; drift(31) = OUTSIDE;"
            + "drift(1) = NOT; drift(30) = NOT");
        new Run(C, "promise 15: without SQUARES").is("drift(1) = NOT; drift(31) = OUTSIDE");
        on(Towns.BENCH, "promise 15: his first DEED that is not done").is("drift(1) = 1; told(8) = 1; lend(0); act(2); drift(1) = 3;"
            + "told(8) = 7; drift(3) = 6;"
            + "told(8) = 63; deed(5, 6) = 6; drift(2) = 8; told(8) = 63");
    }

    private static void driftingAndLapsing() {
        on("t2 0;w0 1 5;p1 0;d0 2 6 1;d0 2 7 1;d0 2 8 1;", "by draws: nor LAPSED, behind the walk").is("drift(1) = 7; told(8) = 2;"
            + "told(9) = 5; drift(1) = 8; told(8) = 2");
        on("t2 0;w0 1 5;p1 0;d0 2 6 1;", "by draws: he is lent it and does none: a minute passes").is("drift(1) = 6; told(6) = 1;"
            + "told(7) = 0; told(8) = 0; drift(1) = 7");
        on("t1 0;p0 0;d0 3 3 1;d0 1 3 1;", "by draws: at the last minute").is("drift(1) = 3; told(8) = 1; told(9) = 2; drift(1) = 4");
    }

    private static void driftingWithoutWays() {
        on("t2 0;p1 0;d0 1 9 1;", "by draws: FAR is not told").is("drift(1) = 1; told(6) = 0; told(7) = NONE; told(8) = 0;"
            + "drift(9) = 10; told(9) = 1");
        // From seed 0 two draws of two are 0 and then 0; from 1742513795 the draw is 1.
        on("t2 0;p0 0;p1 0;d0 1 99 1;d1 1 99 1;", "by draws: FAR is not told, another one HOLDS it on").is("seed(1742513795); lend(0);"
            + "drift(1) = 1; told(7) = 0;"
            + "told(6) = 0; told(8) = 0; seed(0) = 65536; drift(1) = 2; told(8) = 1");
    }

    private static void seeds() {
        on("t1 0;p0 0;", "promise 31: v 0 .. 2147483647").is("seed(-1) = OUTSIDE; seed(MIN) = OUTSIDE; seed(0) = 0;"
            + "seed(2147483647) = 0; seed(-1) = OUTSIDE;"
            + "seed(1) = 2147483647; seed(0) = 1");
        String six = "t1 0;" + "p0 0;".repeat(6);
        on(six, "THE SEED: 0 at first").is("drift(1); told(7) = 0; seed(0) = 12345");
        on(six, "THE SEED: left over by 2 to the 31").is("seed(2147483647); drift(1); seed(0) = 1043980748");
        on(six, "THE SEED becomes 0").is("seed(2088216195); drift(1); told(7) = 0; seed(0) = 0");
        on(six, "THE SEED becomes 2147483647").is("seed(230538014); drift(1); told(7) = 1; seed(0) = 2147483647");
        on(six, "the DRAW is THE SEED / 65536: below").is("seed(2032319262); drift(1); told(7) = 0; seed(0) = 65535");
        on(six, "the DRAW is THE SEED / 65536: above").is("seed(1742513795); drift(1); told(7) = 1; seed(0) = 65536");
        on(six, "the DRAW is left over by the PEOPLE").is("seed(1014474371); drift(1); told(7) = 4; seed(0) = 1073741824");
        on("t1 0;" + "p0 0;".repeat(5), "the DRAW is left over by the PEOPLE").is("seed(230538014); drift(1); told(7) = 2");
        on("t1 0;" + "p0 0;".repeat(4), "the DRAW is left over by the PEOPLE").is("seed(230538014); drift(1); told(7) = 3");
        on("t1 0;p0 0;", "the DRAW of one").is("seed(230538014); drift(1); told(7) = 0");
        new Run(C, "promise 31: without SQUARES").is("seed(5) = 0;"
            + "seed(6) = 5").town("t1 0;").is("seed(7) = 6").faulty(1, "^x").is("seed(8) = 7");
    }

    private static void images() {
        on(Towns.MARKET, "promise 32: IMAGES 0, 1").is("keep(-1) = UNKNOWN; keep(2) = UNKNOWN; keep(MIN) = UNKNOWN;"
            + "keep(MAX) = UNKNOWN; goBack(0) = NOT;"
            + "goBack(1) = NOT; keep(0) = 1; keep(1) = 1; goBack(0) = 1; goBack(1) = 1");
        on(Towns.MARKET, "promise 33: IMAGES 0, 1").is("goBack(-1) = UNKNOWN; goBack(2) = UNKNOWN; goBack(MIN) = UNKNOWN;"
            + "goBack(MAX) = UNKNOWN");
        on(Towns.MARKET, "promise 33: NOT, it was not kept").is("goBack(0) = NOT; keep(1); pass(3); goBack(0) = NOT; told(5) = 3;"
            + "goBack(1) = 1; told(5) = 0");
        on(Towns.MARKET, "promise 33: NOT, it was not kept").is("goBack(1) = NOT; keep(0); pass(3); goBack(1) = NOT; told(5) = 3;"
            + "goBack(0) = 1; told(5) = 0");
        on(Towns.MARKET, "promise 3: IMAGES are gone").is("keep(0); keep(1)").town("t1 0;").is("goBack(0) = NOT; goBack(1) = NOT;"
            + "keep(1); goBack(0) = NOT; goBack(1) = 1");
        on(Towns.MARKET, "promise 3: with a FAULT IMAGES are there").is("keep(0); pass(3)").faulty(1, "t1 0;^x").is("goBack(1) = NOT;"
            + "goBack(0) = 1; told(5) = 0");
        on(Towns.MARKET, "promise 3: IMAGES are gone by an empty text, too").is("keep(0); town() = 0; goBack(0) = NOT");
        new Run(C, "promises 32, 33: without SQUARES").is("goBack(0) = NOT; keep(0) = 1; pass(9); goBack(0) = 1; told(5) = 0;"
            + "told(6) = NONE");
    }

    private static void whatImagesKeep() {
        on(Towns.MARKET, "IMAGES keep MINUTES, where THE WORD is, who HOLDS it, DEEDS, THE SEED").is("lend(0); act(0); seed(7);"
            + "keep(0); lend(1); act(1); seed(8); keep(1);"
            + "drop(); pass(999); seed(9); goBack(0); told(5) = 2; told(6) = 0; told(7) = 0; told(8) = 1; told(9) = 0; deed(0, 6) = 2;"
            + "deed(1, 6) = NONE; seed(1) = 7;"
            + "goBack(1); told(5) = 8; told(6) = 1; told(7) = 1; told(8) = 3; deed(1, 6) = 8; seed(1) = 8; goBack(0); told(8) = 1;"
            + "seed(1) = 7");
        on(Towns.MARKET, "IMAGES keep neither what is TOLD nor THE DIARY nor THE TEXT").is("tell(0, 2); write(0, 2); feed(116);"
            + "keep(0); tell(1, 8); write(0, 3); write(1, 8);"
            + "feed(49); goBack(0); told(11) = 2; told(12) = 3; told(4) = 2; tear() = 5; goBack(0); told(11) = 0; told(12) = 0");
        on(Towns.MARKET, "an IMAGE does not change with what is so").is("keep(0); lend(1); act(1); goBack(0); told(8) = 0; lend(0);"
            + "act(0); goBack(0); told(8) = 0; told(5) = 0; told(7) = NONE");
        on(Towns.MARKET, "an IMAGE is kept anew").is("keep(0); pass(3); keep(0) = 1; pass(4); goBack(0); told(5) = 3");
    }

    private static void beginnings() {
        on(Towns.MARKET, "promise 3: MINUTE 0, no DEED DONE, THE WORD on A, nothing TOLD, no DIARY; THE SEED stays").is("lend(0);"
            + "act(0); tell(0, 2); write(0, 2); seed(7); pass(9)")
            .town("t3 2;p2 0;d0 1 1 1;").is("told(5) = 0; told(6) = 2; told(7) = NONE; told(8) = 0; told(9) = 0; told(11) = 0;"
            + "told(12) = 0; deed(0, 6) = NONE; judge() = NONE;"
                + "seed(0) = 7; lend(0); act(0) = 1");
    }
}
