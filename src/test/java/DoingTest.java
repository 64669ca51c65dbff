/** Promises 11 to 15 and 31 to 33: what is done, draws, images. */
public final class DoingTest {
    private static final Check C = new Check("DoingTest");
    private static final int NONE = LoneAdjective.NONE, UNKNOWN = LoneAdjective.UNKNOWN, OUTSIDE = LoneAdjective.OUTSIDE,
        NOT = LoneAdjective.NOT, FULL = LoneAdjective.FULL;

    public static void main(String[] args) {
        aDay();
        refused();
        lapsing();
        above90000();
        drifting();
        driftLapsed();
        seeds();
        images();
        C.end();
    }

    private static void aDay() {
        LoneAdjective x = Check.townOf(Towns.MARKET);
        C.due("lend(0)", x.lend(0), 0);
        C.due("holder", x.told(7), 0);
        C.due("act(0)", x.act(0), 2);
        C.due("stand", x.deed(0, 5), 1);
        C.due("behind", x.deed(0, 6), 2);
        C.due("lend(1)", x.lend(1), 5);
        C.due("square", x.told(6), 1);
        C.due("again to him", x.lend(1), 5);
        C.due("act(1)", x.act(1), 8);
        C.due("lend(2)", x.lend(2), 14);
        C.due("deed 3 has lapsed", x.told(9), 8);
        C.due("act(3)", x.act(3), NOT);
        C.due("act(2)", x.act(2), 18);
        C.due("done", x.told(8), 7);
        C.due("V", x.told(10), 22);
        C.due("done does not lapse", x.told(9), 8);
        C.due("drop", x.drop(), 2);
        C.due("drop again", x.drop(), NONE);
        C.due("holder", x.told(7), NONE);
        C.due("it lies there", x.told(6), 3);
        C.due("pass", x.pass(999), 1017);
        C.due("done long since", x.deed(2, 5), 1);
    }

    private static void refused() {
        LoneAdjective x = Check.townOf(Towns.MARKET);
        C.due("lend(4)", x.lend(4), UNKNOWN);
        C.due("lend(-1)", x.lend(-1), UNKNOWN);
        C.due("no ways", x.lend(3), NOT);
        C.due("act(4)", x.act(4), UNKNOWN);
        C.due("act(-1)", x.act(-1), UNKNOWN);
        C.due("nobody holds it", x.act(0), NOT);
        x.lend(0);
        C.due("another holds it", x.act(1), NOT);
        x.drop();
        C.due("dropped", x.act(0), NOT);
        x.lend(0);
        x.act(0);
        C.due("done already", x.act(0), NOT);
        C.due("pass(0)", x.pass(0), OUTSIDE);
        C.due("pass(1000)", x.pass(1000), OUTSIDE);
        C.due("pass(-5)", x.pass(-5), OUTSIDE);
        C.due("drift(0)", x.drift(0), OUTSIDE);
        C.due("drift(31)", x.drift(31), OUTSIDE);
        C.due("nothing changed", x.told(5), 2);
        LoneAdjective empty = new LoneAdjective();
        C.due("drop in no town", empty.drop(), NONE);
        C.due("lend in no town", empty.lend(0), UNKNOWN);
        C.due("act in no town", empty.act(0), UNKNOWN);
        C.due("drift in no town", empty.drift(1), NOT);
        C.due("OUTSIDE ahead of NOT", empty.drift(31), OUTSIDE);
        C.due("pass in no town", empty.pass(999), 999);
    }

    private static void lapsing() {
        LoneAdjective x = Check.townOf(Towns.MARKET);
        x.pass(7);
        C.due("at D less M", x.deed(0, 5), 0);
        x.lend(0);
        x.keep(0);
        C.due("done at the last", x.act(0), 9);
        x.goBack(0);
        x.pass(1);
        C.due("above D less M", x.deed(0, 5), 2);
        C.due("act", x.act(0), NOT);
        C.due("done when", x.deed(0, 6), NONE);
        C.due("lapsed", x.told(9), 1);
    }

    private static void above90000() {
        LoneAdjective x = Check.townOf(Towns.MARKET);
        for (int k = 0; k < 90; k++) {
            x.pass(999);
        }
        C.due("pass(90)", x.pass(90), 90000);
        C.due("lend at 90000", x.lend(1), 90003);
        C.due("lend above", x.lend(0), FULL);
        C.due("to himself", x.lend(1), FULL);
        C.due("NOT ahead of FULL", x.lend(3), NOT);
        C.due("UNKNOWN ahead of FULL", x.lend(9), UNKNOWN);
        C.due("pass above", x.pass(1), FULL);
        C.due("OUTSIDE ahead of FULL", x.pass(0), OUTSIDE);
        C.due("drift above", x.drift(1), FULL);
        C.due("drift OUTSIDE", x.drift(31), OUTSIDE);
        C.due("holder", x.told(7), 1);
        C.due("minutes", x.told(5), 90003);
        C.due("seed", x.seed(0), 0);
        LoneAdjective y = Check.townOf("t1 0;p0 0;");
        for (int k = 0; k < 90; k++) {
            y.pass(999);
        }
        y.pass(90);
        y.keep(0);
        C.due("pass at 90000", y.pass(1), 90001);
        C.due("pass at 90001", y.pass(1), FULL);
        C.due("lend at 90001", y.lend(0), FULL);
        C.due("drift at 90001", y.drift(1), FULL);
        y.goBack(0);
        C.due("drift at 90000 goes through", y.drift(30), 90030);
    }

    // Draws of 4 from seed 0: 0, 0, 0, 1, 2, 3.
    private static void drifting() {
        LoneAdjective x = Check.townOf(Towns.MARKET);
        C.due("p0 does deed 0", x.drift(1), 2);
        C.due("seed of one draw", x.seed(12345), 12345);
        C.due("p0 twice, no deed left", x.drift(2), 4);
        C.due("p1 does deed 1", x.drift(1), 10);
        C.due("when", x.deed(1, 6), 10);
        C.due("p2 does deed 2 at the last", x.drift(1), 20);
        C.due("none leads to p3", x.drift(1), 21);
        C.due("holder stays", x.told(7), 2);
        C.due("square stays", x.told(6), 3);
        C.due("done", x.told(8), 7);
        C.due("seed", x.seed(0), 1109335178);
        LoneAdjective y = Check.townOf(Towns.MARKET);
        C.due("all at once", y.drift(6), 21);
        LoneAdjective z = Check.townOf("t1 0;");
        C.due("no people", z.drift(3), NOT);
    }

    private static void driftLapsed() {
        LoneAdjective x = Check.townOf("t1 0;p0 0;d0 2 3 1;d0 2 50 1;");
        x.pass(2);
        C.due("the first that has not lapsed", x.drift(1), 4);
        C.due("done", x.told(8), 2);
        C.due("then a minute each", x.drift(3), 7);
    }

    private static void seeds() {
        LoneAdjective x = Check.townOf(Towns.MARKET);
        C.due("seed(5)", x.seed(5), 0);
        C.due("seed(-1)", x.seed(-1), OUTSIDE);
        C.due("seed(min)", x.seed(Integer.MIN_VALUE), OUTSIDE);
        C.due("seed(max)", x.seed(2147483647), 5);
        C.due("draw of 4 is 1", x.drift(1), 6);
        C.due("by p1", x.told(7), 1);
        C.due("seed", x.seed(0), 1043980748);
    }

    private static void images() {
        LoneAdjective x = Check.townOf(Towns.MARKET);
        C.due("keep(2)", x.keep(2), UNKNOWN);
        C.due("keep(-1)", x.keep(-1), UNKNOWN);
        C.due("goBack(2)", x.goBack(2), UNKNOWN);
        C.due("goBack(-1)", x.goBack(-1), UNKNOWN);
        C.due("goBack(0)", x.goBack(0), NOT);
        C.due("keep(1)", x.keep(1), 1);
        C.due("goBack(0)", x.goBack(0), NOT);
        x.lend(0);
        x.act(0);
        x.seed(9);
        C.due("keep(0)", x.keep(0), 1);
        x.lend(1);
        x.act(1);
        x.seed(10);
        x.tell(0, 2);
        x.write(0, 2);
        C.due("goBack(0)", x.goBack(0), 1);
        C.due("minutes", x.told(5), 2);
        C.due("square", x.told(6), 0);
        C.due("holder", x.told(7), 0);
        C.due("done", x.told(8), 1);
        C.due("seed", x.seed(3), 9);
        C.due("told stays", x.told(11), 1);
        C.due("diary stays", x.told(12), 1);
        x.pass(500);
        C.due("goBack(0) again", x.goBack(0), 1);
        C.due("not done is not lapsed", x.told(9), 0);
        C.due("seed again", x.seed(3), 9);
        C.due("goBack(1)", x.goBack(1), 1);
        C.due("nothing done", x.told(8), 0);
        C.due("nobody", x.told(7), NONE);
        C.due("kept anew", x.keep(0), 1);
        x.pass(4);
        x.goBack(0);
        C.due("minutes", x.told(5), 0);
        LoneAdjective empty = new LoneAdjective();
        empty.pass(4);
        C.due("keep in no town", empty.keep(0), 1);
        empty.pass(4);
        C.due("goBack in no town", empty.goBack(0), 1);
        C.due("minutes in no town", empty.told(5), 4);
        C.due("square in no town", empty.told(6), NONE);
    }
}
