/** The bounds that the document names for what was told and for the diary: promises 25 to 30. */
public final class ToldBoundsTest {
    private static final Check C = new Check("ToldBoundsTest");

    public static void main(String[] args) {
        tellAsked();
        daysByWhatIsTold();
        daysInTime();
        whereAsked();
        whereBounds();
        writeAsked();
        judgeBounds();
        tearBounds();
        lastPromisedCall();
        C.end();
    }

    private static Run on(String text, String sentence) {
        return new Run(C, sentence).town(text);
    }

    private static void tellAsked() {
        on(Towns.CITY, "promise 25: DEEDS 0 .. 5").is("tell(-1, 1) = UNKNOWN; tell(6, 1) = UNKNOWN; tell(MIN, 1) = UNKNOWN;"
            + "tell(MAX, 1) = UNKNOWN; told(11) = 0;"
            + "tell(0, 1) = 1; tell(5, 1) = 2");
        on(Towns.CITY, "promise 25: m 1 .. 999").is("tell(0, 0) = OUTSIDE; tell(0, -1) = OUTSIDE; tell(0, 1000) = OUTSIDE;"
            + "tell(0, MIN) = OUTSIDE; tell(0, MAX) = OUTSIDE;"
            + "told(11) = 0; tell(0, 1) = 1; tell(0, 999) = 2");
        on(Towns.CITY, "promise 25: FULL (6)").is("5 * tell(0, 1); tell(0, 1) = 6; tell(0, 1) = FULL; tell(5, 999) = FULL;"
            + "told(11) = 6; tear() = 6; tell(0, 1) = 1");
        on(Towns.CITY, "promise 25: UNKNOWN, OUTSIDE, FULL in this order").is("tell(6, 0) = UNKNOWN; tell(-1, 1000) = UNKNOWN;"
            + "6 * tell(0, 1); tell(6, 1) = UNKNOWN;"
            + "tell(-1, 1) = UNKNOWN; tell(0, 0) = OUTSIDE; tell(0, 1000) = OUTSIDE; tell(6, 0) = UNKNOWN; tell(0, 1) = FULL");
        new Run(C, "promise 25: no SQUARES").is("tell(0, 1) = UNKNOWN; tell(0, 0) = UNKNOWN");
    }

    private static void daysByWhatIsTold() {
        new Run(C, "promise 26: without SQUARES no DAYS").is("days() = 0; where(0) = 0; where(999) = 0");
        on(Towns.MARKET, "promise 26: without SQUARES no DAYS, behind a town").is("town() = 0; days() = 0; where(0) = 0");
        on("t1 0;", "promise 26: without DEEDS one").is("days() = 1");
        on("t1 0;p0 0;d0 3 9 1;", "promise 26: done behind minute m, just then").is("days() = 2; tell(0, 3); days() = 1; tear();"
            + "tell(0, 2); days() = 0; tear(); tell(0, 4); days() = 0");
        on("t1 0;p0 0;d0 3 9 1;d0 2 9 1;", "promise 26: of one DEED only").is("days() = 5; tell(1, 2); days() = 2; tell(0, 5);"
            + "days() = 1; tell(0, 3); days() = 0");
        on("t1 0;p0 0;d0 3 9 1;", "promise 26: told again").is("6 * tell(0, 3); days() = 1");
        on("t1 0;p0 0;d0 3 9 1;", "promise 26: the sixth counts, too").is("5 * tell(0, 3); tell(0, 4); days() = 0");
        on(Towns.BENCH, "promise 26: all rows of six").is("days() = 1957; tell(0, 1) = 1; days() = 326; tell(1, 2); tell(2, 3);"
            + "tell(3, 4); tell(4, 5); days() = 2; tell(5, 6) = 6;"
            + "days() = 1; where(5) = 1; where(999) = 1");
    }

    private static void daysInTime() {
        on("t1 0;p0 0;d0 3 3 1;", "DAYS are ROUNDS: at D").is("days() = 2");
        on("t1 0;p0 0;d0 3 2 1;", "DAYS are ROUNDS: above D").is("days() = 1");
        on("t1 0;p0 0;d0 3 9 1;d0 3 6 1;", "DAYS are ROUNDS: the second at D").is("days() = 5");
        on("t1 0;p0 0;d0 3 9 1;d0 3 5 1;", "DAYS are ROUNDS: the second above D").is("days() = 4");
        on("t2 1;w0 1 4;p0 0;d0 3 7 1;", "from SQUARE A: at D").is("days() = 2; tell(0, 7); days() = 1; where(0) = 1");
        on("t2 1;w0 1 4;p0 0;d0 3 6 1;", "from SQUARE A: above D").is("days() = 1; where(0) = 2");
        on("t2 1;p0 0;d0 3 99 1;", "from SQUARE A: no WAYS lead there").is("days() = 1; where(0) = 2");
        on("t2 1;w0 1 4;p0 0;d0 3 7 1;", "from minute 0 on, whatever is so").is("pass(99); lend(0); days() = 2; where(0) = 3; drop();"
            + "days() = 2");
        on("t2 1;w0 1 4;p0 0;d0 3 7 1;", "of DEEDS (any): DONE ones, too").is("lend(0); act(0) = 7; days() = 2; where(0) = 3");
    }

    private static void whereAsked() {
        on("t3 2;", "promise 27: t 0 .. 999").is("where(-1) = OUTSIDE; where(0) = 4; where(999) = 4; where(1000) = OUTSIDE;"
            + "where(MIN) = OUTSIDE; where(MAX) = OUTSIDE");
        new Run(C, "promise 27: OUTSIDE without SQUARES, too").is("where(-1) = OUTSIDE; where(1000) = OUTSIDE; where(0) = 0");
        on("t7 6;", "promise 27: the last SQUARE; A, if the row has none").is("where(0) = 64; where(500) = 64");
    }

    private static void whereBounds() {
        String row = "t3 0;w0 1 4;w1 2 5;p1 0;p2 0;d0 3 99 1;d1 2 99 1;";
        on(row, "the walk that was the last to begin by then").is("tell(0, 7); tell(1, 14); days() = 1; where(0) = 2; where(6) = 2;"
            + "where(7) = 4; where(8) = 4; where(14) = 4;"
            + "where(999) = 4");
        on(row, "by all DAYS").is("days() = 5; where(0) = 7; where(6) = 7; where(7) = 7; where(999) = 7; tell(0, 7); days() = 2;"
            + "where(6) = 2; where(7) = 6");
        on(row, "no DAYS: no SQUARES").is("tell(0, 8); days() = 0; where(0) = 0; where(999) = 0");
        on("t2 0;w0 1 4;p0 0;p1 0;d0 1 1 1;d1 1 999 1;", "at minute 0 the first walk has begun").is("tell(0, 1); tell(1, 6);"
            + "where(0) = 1; where(1) = 2");
    }

    private static void writeAsked() {
        on(Towns.CITY, "promise 28: DEEDS 0 .. 5").is("write(-1, 1) = UNKNOWN; write(6, 1) = UNKNOWN; write(MIN, 1) = UNKNOWN;"
            + "write(MAX, 1) = UNKNOWN; told(12) = 0;"
            + "write(0, 1) = 1; write(5, 1) = 2");
        on(Towns.CITY, "promise 28: m 0 .. 99999").is("write(0, -1) = OUTSIDE; write(0, 100000) = OUTSIDE; write(0, MIN) = OUTSIDE;"
            + "write(0, MAX) = OUTSIDE; told(12) = 0;"
            + "write(0, 0) = 1; write(0, 99999) = 2");
        on(Towns.CITY, "promise 28: FULL (15)").is("14 * write(0, 1); write(0, 1) = 15; write(0, 1) = FULL; write(5, 99999) = FULL;"
            + "told(12) = 15; tear() = 15; write(0, 1) = 1");
        on(Towns.CITY, "promise 28: UNKNOWN, OUTSIDE, FULL in this order").is("write(6, -1) = UNKNOWN; write(-1, 100000) = UNKNOWN;"
            + "15 * write(0, 1); write(6, 1) = UNKNOWN;"
            + "write(-1, 1) = UNKNOWN; write(0, -1) = OUTSIDE; write(0, 100000) = OUTSIDE; write(6, -1) = UNKNOWN; write(0, 1) = FULL");
        new Run(C, "promise 28: no SQUARES").is("write(0, 1) = UNKNOWN; write(0, -1) = UNKNOWN");
    }

    private static void judgeBounds() {
        new Run(C, "promise 29: an empty DIARY").is("judge() = NONE");
        String done = "t1 0;p0 0;d0 3 9 1;d0 2 9 1;";
        on(done, "promise 29: just then").is("judge() = NONE; lend(0); act(0) = 3; write(0, 3); judge() = NONE; tear(); write(0, 2);"
            + "judge() = 0; tear(); write(0, 4); judge() = 0");
        on(done, "promise 29: not DONE, at minute 0 neither").is("write(1, 0); judge() = 0; lend(0); act(1); judge() = 0");
        on(done, "promise 29: the first of several").is("lend(0); act(0); write(0, 3); write(0, 4); write(1, 5); judge() = 1;"
            + "act(1) = 5; judge() = 1");
        on(done, "promise 29: the last of 15").is("lend(0); act(0); 14 * write(0, 3); judge() = NONE; write(1, 5) = 15; judge() = 14;"
            + "act(1) = 5; judge() = NONE");
        on(done, "promise 29: LAPSED is not DONE").is("write(0, 9); pass(7); told(9) = 1; judge() = 0");
        on(done, "promise 29: what is so by an IMAGE").is("keep(0); lend(0); act(0); write(0, 3); judge() = NONE; goBack(0); judge() = 0");
    }

    private static void tearBounds() {
        new Run(C, "promise 30: nothing").is("tear() = 0; tear() = 0");
        on(Towns.CITY, "promise 30: how many both had").is("tell(0, 1); tear() = 1; write(0, 1); tear() = 1; 6 * tell(0, 1);"
            + "15 * write(0, 1); tear() = 21; tear() = 0; told(11) = 0; told(12) = 0;"
            + "tell(0, 1) = 1; write(0, 1) = 1");
        on(Towns.CITY, "promise 3: nothing TOLD, no DIARY").is("tell(0, 1); write(0, 1)").town("t1 0;").is("tear() = 0");
        on(Towns.CITY, "promise 3: with a FAULT all is as it was").is("tell(0, 1); write(0, 1)").faulty(1, "^x").is("tear() = 2");
    }

    private static void lastPromisedCall() {
        on("t1 0;p0 0;d0 1 999 1;", "an object is used for 512 calls").is("lend(0); 485 * drop(); lend(0); act(0) = 1; told(8) = 1");
    }
}
