/** The refusals of each call: of several the first in the document's order, and what is refused changes nothing. */
public final class RefusalsTest {
    private static final Check C = new Check("RefusalsTest");
    // Something of all that could change: minutes, a holder, a deed done, the seed, both images, what is told, the diary.
    private static final String MUCH = "lend(0); act(0); seed(7); keep(0); lend(1); seed(8); keep(1); pass(1); seed(9);"
        + "tell(0, 2); write(0, 2); write(1, 9)";
    private static final String MUCH_AND_TEXT = MUCH + "; feed(116); feed(50); feed(32); feed(49); feed(59)";
    private static final String LATE = "keep(0); 90 * pass(999); pass(91) = 90001; seed(9)";

    public static void main(String[] args) {
        unknown();
        outside();
        not();
        full();
        unknownAheadOfOutside();
        unknownAheadOfNot();
        aheadOfFull();
        allThree();
        faults();
        questions();
        C.end();
    }

    private static Run begun(String text, String before) {
        return new Run(C, "what is refused changes nothing").town(text).is(before);
    }

    /** Each call is made of an object of its own, and all else is then as it is with one of which it was not made. */
    private static void changeNothing(String text, String before, String calls) {
        for (String call : calls.split(";")) {
            Run asked = begun(text, before).is(call);
            C.alike(call + " behind " + before + " changes nothing", asked.seen(), begun(text, before).seen());
        }
    }

    private static void refused(String calls) {
        changeNothing(Towns.MARKET, MUCH_AND_TEXT, calls);
    }

    private static void unknown() {
        refused("far(-1, 0) = UNKNOWN; far(0, 5) = UNKNOWN; person(4, 0) = UNKNOWN; deed(4, 0) = UNKNOWN; trust(0, 4) = UNKNOWN;"
            + "trust(1, 1) = UNKNOWN; lets(2) = UNKNOWN; lend(-1) = UNKNOWN; lend(4) = UNKNOWN; act(-1) = UNKNOWN; act(4) = UNKNOWN;"
            + "two(5) = UNKNOWN; chain(0, 4, 0) = UNKNOWN; chain(1, 1, 0) = UNKNOWN; lost(4) = UNKNOWN; sold(1, 4, 0) = UNKNOWN;"
            + "thief(0, 0, 5, 0) = UNKNOWN; vote(2) = UNKNOWN; vote(-2) = UNKNOWN; tell(-1, 1) = UNKNOWN; tell(4, 1) = UNKNOWN;"
            + "write(-1, 1) = UNKNOWN; write(4, 1) = UNKNOWN; keep(-1) = UNKNOWN; keep(2) = UNKNOWN; goBack(-1) = UNKNOWN;"
            + "goBack(2) = UNKNOWN");
    }

    private static void outside() {
        refused("feed(-1) = OUTSIDE; feed(256) = OUTSIDE; told(-1) = OUTSIDE; told(13) = OUTSIDE; person(0, 2) = OUTSIDE;"
            + "deed(0, 7) = OUTSIDE;"
            + "pass(0) = OUTSIDE; pass(1000) = OUTSIDE; drift(0) = OUTSIDE; drift(31) = OUTSIDE; reword(2) = OUTSIDE;"
            + "chain(0, 1, 2) = OUTSIDE;"
            + "sold(0, 0, 0) = OUTSIDE; sold(10, 0, 0) = OUTSIDE; sold(1, 0, 2) = OUTSIDE; thief(0, 0, 0, 2) = OUTSIDE;"
            + "tell(0, 0) = OUTSIDE;"
            + "tell(0, 1000) = OUTSIDE; where(-1) = OUTSIDE; where(1000) = OUTSIDE; write(0, -1) = OUTSIDE; write(0, 100000) = OUTSIDE;"
            + "seed(-1) = OUTSIDE; seed(MIN) = OUTSIDE");
    }

    private static void not() {
        refused("lend(3) = NOT; act(0) = NOT; act(2) = NOT");
        changeNothing(Towns.MARKET, "lend(0); pass(8); seed(9)", "act(0) = NOT; goBack(0) = NOT; goBack(1) = NOT");
        changeNothing(Towns.MARKET, "lend(0); drop(); keep(1); seed(9)", "act(0) = NOT; goBack(0) = NOT");
        changeNothing("t2 1;", "pass(3); keep(0); seed(9); feed(116)", "drift(1) = NOT; drift(30) = NOT");
    }

    private static void full() {
        changeNothing("t1 0;p0 0;d0 1 9 1;", "lend(0); act(0); 240 * feed(32); 4 * feed(120); 6 * feed(32)", "feed(0) = FULL;"
            + "feed(116) = FULL; feed(255) = FULL");
        changeNothing(Towns.MARKET, LATE, "lend(0) = FULL; lend(1) = FULL; pass(1) = FULL; pass(999) = FULL; drift(1) = FULL;"
            + "drift(30) = FULL");
        changeNothing(Towns.MARKET, "6 * tell(0, 2); lend(0); act(0)", "tell(0, 2) = FULL; tell(1, 8) = FULL");
        changeNothing(Towns.MARKET, "15 * write(0, 2); lend(0); act(0)", "write(0, 2) = FULL; write(1, 8) = FULL");
    }

    private static void unknownAheadOfOutside() {
        refused("person(-1, -1) = UNKNOWN; person(4, 2) = UNKNOWN; deed(-1, -1) = UNKNOWN; deed(4, 7) = UNKNOWN; chain(4, 0, 2) = UNKNOWN;"
            + "chain(0, -1, -1) = UNKNOWN; chain(1, 1, 2) = UNKNOWN; sold(0, 4, 0) = UNKNOWN; sold(10, -1, 0) = UNKNOWN;"
            + "sold(1, 4, 2) = UNKNOWN;"
            + "thief(5, 0, 0, 2) = UNKNOWN; thief(0, -1, 0, -1) = UNKNOWN; thief(0, 0, 5, 2) = UNKNOWN; tell(4, 0) = UNKNOWN;"
            + "tell(-1, 1000) = UNKNOWN;"
            + "write(4, -1) = UNKNOWN; write(-1, 100000) = UNKNOWN");
    }

    private static void unknownAheadOfNot() {
        // Without squares nothing leads anywhere, nobody holds it, no image was kept.
        changeNothing("", "pass(3); seed(9)", "lend(0) = UNKNOWN; act(0) = UNKNOWN; goBack(2) = UNKNOWN; goBack(-1) = UNKNOWN;"
            + "drift(0) = OUTSIDE; drift(31) = OUTSIDE");
        changeNothing(Towns.MARKET, "drop()", "act(4) = UNKNOWN; act(-1) = UNKNOWN; goBack(2) = UNKNOWN; goBack(-1) = UNKNOWN");
    }

    private static void aheadOfFull() {
        changeNothing("t1 0;", "250 * feed(32)", "feed(-1) = OUTSIDE; feed(256) = OUTSIDE");
        changeNothing(Towns.MARKET, LATE, "lend(-1) = UNKNOWN; lend(4) = UNKNOWN; lend(3) = NOT; pass(0) = OUTSIDE;"
            + "pass(1000) = OUTSIDE; drift(0) = OUTSIDE;"
            + "drift(31) = OUTSIDE; act(0) = NOT; act(4) = UNKNOWN");
        changeNothing("t1 0;", LATE, "drift(1) = NOT; drift(30) = NOT");
        changeNothing(Towns.MARKET, "6 * tell(0, 2)", "tell(4, 2) = UNKNOWN; tell(-1, 2) = UNKNOWN; tell(0, 0) = OUTSIDE;"
            + "tell(0, 1000) = OUTSIDE");
        changeNothing(Towns.MARKET, "15 * write(0, 2)", "write(4, 2) = UNKNOWN; write(-1, 2) = UNKNOWN; write(0, -1) = OUTSIDE;"
            + "write(0, 100000) = OUTSIDE");
    }

    private static void allThree() {
        changeNothing("t1 0;", LATE, "drift(0) = OUTSIDE; drift(31) = OUTSIDE; lend(0) = UNKNOWN");
        changeNothing(Towns.MARKET, "6 * tell(0, 2)", "tell(4, 0) = UNKNOWN; tell(-1, 1000) = UNKNOWN");
        changeNothing(Towns.MARKET, "15 * write(0, 2)", "write(4, -1) = UNKNOWN; write(-1, 100000) = UNKNOWN");
    }

    private static void faults() {
        faulty(1, "^x");
        faulty(2, "t^8 0;");
        faulty(3, "t1 0;^t");
        faulty(4, "t1 0;w0 ^0 1;");
        faulty(1, "t2 1;w0 1 1;p1 1;d0 1 1 1;o1;^x");
        faulty(2, "t7 6;p6 1;p6 2;p6 3;p6 4;p6 5;d0 1 1 1;q0 1 ^11;");
    }

    /** A text with a fault, whatever it told ahead of it, leaves all but the text and the fault as it was. */
    private static void faulty(int number, String marked) {
        Run asked = begun(Towns.MARKET, MUCH).faulty(number, marked);
        C.alike("town of " + marked + " changes nothing", asked.seen(), begun(Towns.MARKET, MUCH).seen());
    }

    /** "Nothing changes by it": what is only asked or tried. */
    private static void questions() {
        refused("fault() = NONE; told(5) = 6; far(0, 3) = 9; person(0, 0) = 0; deed(0, 6) = 2; trust(0, 1) = 9; lets(0) = 3;"
            + "round(-1) = 17; round(-2) = 19; round(0) = 1;"
            + "round(5) = NONE; two(3) = 18; reword(0) = NONE; reword(1) = NONE; chain(0, 2, 0) = 450000000; lost(0) = 8;"
            + "sold(9, 1, 1) = 30; thief(0, 2, 3, 1) = 1;"
            + "vote(-1) = 0; vote(1) = 1; bestWord() = 1; days() = 6; where(5) = 11; judge() = 1");
    }
}
