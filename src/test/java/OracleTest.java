import java.util.Random;

/** Runs of calls by a fixed row of draws, each answer held against the oracle's. */
public final class OracleTest {
    private static final int RUNS = 900;
    private static final int[] WILD = {Integer.MIN_VALUE, Integer.MAX_VALUE, -1000, -3, -2, -1, 7, 64, 256, 1000, 100000};
    private final Random draws;
    private final Check check;
    private LoneAdjective x;
    private Oracle o;

    private OracleTest(long seed, Check check) {
        draws = new Random(seed);
        this.check = check;
    }

    public static void main(String[] args) {
        Check check = new Check("OracleTest");
        for (int run = 0; run < RUNS; run++) {
            new OracleTest(run, check).run(run);
        }
        check.end();
    }

    private int below(int n) {
        return draws.nextInt(n);
    }

    /** Mostly what can be meant, now and then what cannot. */
    private int about(int n) {
        return below(12) == 0 ? WILD[below(WILD.length)] : below(n);
    }

    private void run(int run) {
        x = new LoneAdjective();
        o = new Oracle();
        int calls = 0;
        while (calls < 505) {
            if (below(calls == 0 ? 2 : 60) == 0 && calls < 200) {
                calls += tellTown(run);
            } else {
                call(run);
                calls++;
            }
        }
    }

    private int tellTown(int run) {
        String text = below(4) == 0 ? spoiled(townText()) : townText();
        for (int k = 0; k < text.length(); k++) {
            same(run, "feed", x.feed(text.charAt(k)), o.feed(text.charAt(k)));
        }
        same(run, "town of " + text, x.town(), o.town());
        same(run, "fault of " + text, x.fault(), o.fault());
        return text.length() + 2;
    }

    private String gap() {
        return below(12) == 0 ? "  " : " ";
    }

    private String townText() {
        int squares = 1 + below(7), people = below(7), deeds = people == 0 ? 0 : below(7);
        int tight = below(2) == 0 ? 40 : 200;
        StringBuilder s = new StringBuilder("t" + squares + gap() + below(squares) + ";");
        for (int k = below(11); k > 0 && squares > 1; k--) {
            int a = below(squares), b = below(squares);
            if (a != b && s.indexOf("w" + a + " " + b) < 0 && s.indexOf("w" + b + " " + a) < 0) {
                s.append("w" + a + " " + b + gap() + (1 + below(below(3) == 0 ? 30 : 6)) + ";");
            }
        }
        for (int k = 0; k < people; k++) s.append("p" + below(squares) + gap() + below(below(2) == 0 ? 100 : 8) + ";");
        for (int k = 0; k < deeds; k++) {
            s.append("d" + below(people) + gap() + (1 + below(below(3) == 0 ? 30 : 6)) + gap() + (1 + below(tight)) + gap()
                + below(below(2) == 0 ? 100 : 4) + ";");
        }
        for (int k = 0; k < deeds; k++) if (below(2) == 0) s.append("r" + k + gap() + below(5) + ";");
        for (int k = below(13); k > 0 && people > 1; k--) {
            int a = below(people), b = below(people);
            if (a != b && s.indexOf("q" + a + " " + b) < 0) s.append("q" + a + " " + b + gap() + below(11) + ";");
        }
        for (int k = below(5); k > 0 && deeds > 0; k--) s.append("o" + (1 + below((1 << deeds) - 1)) + ";");
        return s.length() <= 250 ? s.toString() : s.substring(0, 250);
    }

    private String spoiled(String text) {
        String letters = "twpdrqo;0123456789  x\u00e9\t";
        StringBuilder s = new StringBuilder(text);
        for (int k = 1 + below(2); k > 0; k--) {
            int at = below(s.length());
            char c = letters.charAt(below(letters.length()));
            switch (below(4)) {
                case 0: s.setCharAt(at, c); break;
                case 1: if (s.length() < 250) s.insert(at, c); break;
                case 2: if (s.length() > 1) s.deleteCharAt(at); break;
                default:
                    int end = Math.min(s.length(), at + 1 + below(12));
                    if (s.length() + end - at <= 250) s.append(s.substring(at, end));
            }
        }
        return s.toString();
    }

    private void same(int run, String call, int got, int want) {
        check.due("run " + run + " " + call, got, want);
    }

    private void call(int run) {
        int a = about(6), b = about(6), g = about(7), what = about(2);
        switch (below(40)) {
            case 0: case 1: same(run, "told", x.told(b = about(13)), o.told(b)); break;
            case 2: same(run, "far", x.far(a, b), o.far(a, b)); break;
            case 3: same(run, "person", x.person(a, what), o.person(a, what)); break;
            case 4: case 5: same(run, "deed", x.deed(a, b = about(7)), o.deed(a, b)); break;
            case 6: same(run, "trust", x.trust(a, b), o.trust(a, b)); break;
            case 7: same(run, "lets", x.lets(a), o.lets(a)); break;
            case 8: case 9: same(run, "lend", x.lend(a), o.lend(a)); break;
            case 10: case 11: same(run, "act", x.act(a), o.act(a)); break;
            case 12: same(run, "drop", x.drop(), o.drop()); break;
            case 13: same(run, "pass", x.pass(a = about(run % 9 == 0 ? 999 : 4)), o.pass(a)); break;
            case 14: same(run, "drift", x.drift(a = about(run % 3 == 0 ? 30 : 3)), o.drift(a)); break;
            case 15: case 16: same(run, "round " + a, x.round(a = below(9) - 3), o.round(a)); break;
            case 17: same(run, "two", x.two(a), o.two(a)); break;
            case 18: same(run, "reword", x.reword(what), o.reword(what)); break;
            case 19: same(run, "chain", x.chain(a, b, what), o.chain(a, b, what)); break;
            case 20: same(run, "lost", x.lost(a), o.lost(a)); break;
            case 21: same(run, "sold", x.sold(g = about(10), b, what), o.sold(g, b, what)); break;
            case 22: case 23: same(run, "thief", x.thief(a, b, g, what), o.thief(a, b, g, what)); break;
            case 24: same(run, "vote", x.vote(a = below(6) - 1), o.vote(a)); break;
            case 25: same(run, "bestWord", x.bestWord(), o.bestWord()); break;
            case 26: same(run, "tell", x.tell(a, b = about(60)), o.tell(a, b)); break;
            case 27: case 28: same(run, "days", x.days(), o.days()); break;
            case 29: same(run, "where", x.where(b = about(80)), o.where(b)); break;
            case 30: same(run, "write", x.write(a, b = about(60)), o.write(a, b)); break;
            case 31: writeWhatIsSo(run, a); break;
            case 32: same(run, "judge", x.judge(), o.judge()); break;
            case 33: case 34: if (below(3) == 0) same(run, "tear", x.tear(), o.tear()); break;
            case 35: same(run, "seed", x.seed(a = draws.nextInt()), o.seed(a)); break;
            case 36: same(run, "keep", x.keep(what), o.keep(what)); break;
            case 37: case 38: same(run, "goBack", x.goBack(what), o.goBack(what)); break;
            default: tellWhatCanBe(run, a);
        }
    }

    // By chance alone hardly any entry or telling would ever be true.
    private void writeWhatIsSo(int run, int i) {
        int m = Math.max(0, o.deed(i, 6));
        same(run, "write", x.write(i, m), o.write(i, m));
    }

    private void tellWhatCanBe(int run, int i) {
        int m = o.deed(i, 1) + Math.max(0, o.far(o.told(6), o.person(o.deed(i, 0), 0)));
        same(run, "tell", x.tell(i, m), o.tell(i, m));
    }
}
