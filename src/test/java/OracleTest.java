import java.util.Random;

/** Runs of calls by a fixed row of draws, in towns of any size, right and faulty texts; each answer held against the oracle's. */
public final class OracleTest {
    private static final int RUNS = 2000;
    private final Random draws;
    private final Pair pair;
    private final AnyCall calls;

    private OracleTest(int run, Check check) {
        draws = new Random(run);
        pair = new Pair(check, "run " + run);
        calls = new AnyCall(draws, pair, run % 9 == 0 ? 999 : 4, run % 3 == 0 ? 30 : 3);
    }

    public static void main(String[] args) {
        Check check = new Check("OracleTest");
        for (int run = 0; run < RUNS; run++) {
            new OracleTest(run, check).run();
        }
        check.end();
    }

    private int below(int n) {
        return draws.nextInt(n);
    }

    private void run() {
        boolean first = true;
        while (pair.callsLeft() > 0) {
            if (below(first ? 2 : 60) == 0 && pair.callsLeft() > 312) {
                pair.feeds(below(4) == 0 ? spoiled(townText()) : townText());
                pair.ask("fault");
            } else {
                calls.make();
            }
            first = false;
        }
    }

    private String gap() {
        return below(12) == 0 ? "  " : " ";
    }

    private String townText() {
        int squares = 1 + below(7), people = below(7), deeds = people == 0 ? 0 : below(7);
        int tight = below(2) == 0 ? 40 : 200;
        StringBuilder s = new StringBuilder("t" + squares + gap() + below(squares) + ";");
        for (int k = below(11); k > 0 && squares > 1; k--) {
            int a = below(squares), b = below(squares);
            if (a != b && s.indexOf("w" + a + " " + b) < 0 && s.indexOf("w" + b + " " + a) < 0) {
                s.append("w" + a + " " + b + gap() + (1 + below(below(3) == 0 ? 30 : 6)) + ";");
            }
        }
        for (int k = 0; k < people; k++) s.append("p" + below(squares) + gap() + below(below(2) == 0 ? 100 : 8) + ";");
        for (int k = 0; k < deeds; k++) {
            s.append("d" + below(people) + gap() + (1 + below(below(3) == 0 ? 30 : 6)) + gap() + (1 + below(tight)) + gap()
                + below(below(2) == 0 ? 100 : 4) + ";");
        }
        for (int k = 0; k < deeds; k++) if (below(2) == 0) s.append("r" + k + gap() + below(5) + ";");
        for (int k = below(13); k > 0 && people > 1; k--) {
            int a = below(people), b = below(people);
            if (a != b && s.indexOf("q" + a + " " + b) < 0) s.append("q" + a + " " + b + gap() + below(11) + ";");
        }
        for (int k = below(5); k > 0 && deeds > 0; k--) s.append("o" + (1 + below((1 << deeds) - 1)) + ";");
        return s.length() <= 250 ? s.toString() : s.substring(0, 250);
    }

    private String spoiled(String text) {
        String letters = "twpdrqo;0123456789  x\u00e9\t";
        StringBuilder s = new StringBuilder(text);
        for (int k = 1 + below(2); k > 0; k--) {
            int at = below(s.length());
            char c = letters.charAt(below(letters.length()));
            switch (below(4)) {
                case 0: s.setCharAt(at, c); break;
                case 1: if (s.length() < 250) s.insert(at, c); break;
                case 2: if (s.length() > 1) s.deleteCharAt(at); break;
                default:
                    int end = Math.min(s.length(), at + 1 + below(12));
                    if (s.length() + end - at <= 250) s.append(s.substring(at, end));
            }
        }
        return s.toString();
    }
}
