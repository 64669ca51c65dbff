/** Promises 25 to 30: what was told, days that fit it, the diary. */
public final class ToldTest {
    private static final Check C = new Check("ToldTest");
    private static final int NONE = LoneAdjective.NONE, UNKNOWN = LoneAdjective.UNKNOWN, OUTSIDE = LoneAdjective.OUTSIDE,
        FULL = LoneAdjective.FULL;

    public static void main(String[] args) {
        telling();
        fittingDays();
        daysHaveTheirOwnTime();
        whereItWas();
        writing();
        judging();
        tearing();
        C.end();
    }

    private static void telling() {
        LoneAdjective x = Check.townOf(Towns.MARKET);
        C.due("tell(4, 0)", x.tell(4, 0), UNKNOWN);
        C.due("tell(-1, 1)", x.tell(-1, 1), UNKNOWN);
        C.due("tell(0, 0)", x.tell(0, 0), OUTSIDE);
        C.due("tell(0, 1000)", x.tell(0, 1000), OUTSIDE);
        C.due("nothing told", x.told(11), 0);
        for (int k = 1; k <= 6; k++) {
            C.due("tell " + k, x.tell(0, k == 1 ? 999 : 1), k);
        }
        C.due("tell 7", x.tell(0, 1), FULL);
        C.due("UNKNOWN ahead of FULL", x.tell(4, 1), UNKNOWN);
        C.due("OUTSIDE ahead of FULL", x.tell(0, 0), OUTSIDE);
        C.due("told", x.told(11), 6);
    }

    private static void fittingDays() {
        LoneAdjective x = Check.townOf(Towns.MARKET);
        C.due("all rounds, the empty one too", x.days(), 14);
        x.tell(2, 18);
        // 0 1 2 ends so, 3 2 ends so.
        C.due("deed 2 at 18", x.days(), 2);
        C.due("where(0)", x.where(0), 1 | 8);
        C.due("where(2)", x.where(2), 2 | 8);
        C.due("where(8)", x.where(8), 8);
        x.tell(2, 18);
        C.due("told twice", x.days(), 2);
        x.tell(0, 2);
        C.due("deed 0 at 2", x.days(), 1);
        x.tell(2, 17);
        C.due("two times for one", x.days(), 0);
        C.due("where", x.where(0), 0);
        C.due("six deeds in any row", Check.townOf("t1 0;p0 0;d0 1 99 1;d0 1 99 1;d0 1 99 1;d0 1 99 1;d0 1 99 1;d0 1 99 1;").days(), 1957);
        C.due("a town without deeds", Check.townOf("t3 2;").days(), 1);
        C.due("its square", Check.townOf("t3 2;").where(999), 4);
        C.due("no squares", new LoneAdjective().days(), 0);
        C.due("where without squares", new LoneAdjective().where(0), 0);
    }

    private static void daysHaveTheirOwnTime() {
        LoneAdjective x = Check.townOf(Towns.MARKET);
        x.lend(1);
        x.act(1);
        x.pass(900);
        C.due("neither now nor what is done counts", x.days(), 14);
        C.due("nor where it is", x.where(0), 11);
    }

    private static void whereItWas() {
        LoneAdjective x = Check.townOf(Towns.MARKET);
        C.due("where(-1)", x.where(-1), OUTSIDE);
        C.due("where(1000)", x.where(1000), OUTSIDE);
        x.tell(0, 2);
        x.tell(1, 8);
        x.tell(2, 18);
        C.due("where(1)", x.where(1), 1);
        C.due("the walk begins at 2", x.where(2), 2);
        C.due("where(7)", x.where(7), 2);
        C.due("the walk begins at 8", x.where(8), 8);
        C.due("where(999)", x.where(999), 8);
    }

    private static void writing() {
        LoneAdjective x = Check.townOf(Towns.MARKET);
        C.due("write(4, -1)", x.write(4, -1), UNKNOWN);
        C.due("write(0, -1)", x.write(0, -1), OUTSIDE);
        C.due("write(0, 100000)", x.write(0, 100000), OUTSIDE);
        for (int k = 1; k <= 15; k++) {
            C.due("write " + k, x.write(k % 4, k == 1 ? 99999 : 0), k);
        }
        C.due("write 16", x.write(0, 0), FULL);
        C.due("UNKNOWN ahead of FULL", x.write(9, 0), UNKNOWN);
        C.due("OUTSIDE ahead of FULL", x.write(0, -1), OUTSIDE);
        C.due("entries", x.told(12), 15);
    }

    private static void judging() {
        LoneAdjective x = Check.townOf(Towns.MARKET);
        C.due("an empty diary", x.judge(), NONE);
        x.lend(0);
        x.act(0);
        x.write(0, 2);
        x.write(0, 2);
        C.due("right", x.judge(), NONE);
        x.write(1, 8);
        x.write(0, 3);
        C.due("not done yet", x.judge(), 2);
        x.lend(1);
        x.act(1);
        C.due("done just then; the next is wrong", x.judge(), 3);
        LoneAdjective y = Check.townOf(Towns.MARKET);
        y.write(0, 0);
        C.due("not done is not done at 0", y.judge(), 0);
        C.due("no town", new LoneAdjective().judge(), NONE);
    }

    private static void tearing() {
        LoneAdjective x = Check.townOf(Towns.MARKET);
        C.due("nothing", x.tear(), 0);
        x.tell(0, 2);
        x.tell(1, 8);
        x.write(0, 1);
        C.due("both", x.tear(), 3);
        C.due("told", x.told(11), 0);
        C.due("diary", x.told(12), 0);
        C.due("days", x.days(), 14);
        C.due("judge", x.judge(), NONE);
        C.due("tell anew", x.tell(0, 2), 1);
        C.due("write anew", x.write(0, 2), 1);
    }
}
