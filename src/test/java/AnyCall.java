import java.util.Random;

/** One call after the other by draws: mostly such as can be meant, now and then such as cannot. */
final class AnyCall {
    private static final int[] WILD = {Integer.MIN_VALUE, Integer.MAX_VALUE, -1000, -3, -2, -1, 7, 64, 256, 1000, 100000};
    private final Random draws;
    private final Pair pair;
    private final int longestPass;
    private final int mostDrift;

    AnyCall(Random draws, Pair pair, int longestPass, int mostDrift) {
        this.draws = draws;
        this.pair = pair;
        this.longestPass = longestPass;
        this.mostDrift = mostDrift;
    }

    private int below(int n) {
        return draws.nextInt(n);
    }

    private int about(int n) {
        return below(12) == 0 ? WILD[below(WILD.length)] : below(n);
    }

    void make() {
        int a = about(6), b = about(6), g = about(7), what = about(2);
        switch (below(40)) {
            case 0: case 1: pair.ask("told", about(13)); break;
            case 2: pair.ask("far", about(7), g); break;
            case 3: pair.ask("person", a, what); break;
            case 4: case 5: pair.ask("deed", a, about(7)); break;
            case 6: pair.ask("trust", a, b); break;
            case 7: pair.ask("lets", about(4)); break;
            case 8: case 9: pair.ask("lend", a); break;
            case 10: case 11: pair.ask("act", a); break;
            case 12: pair.ask("drop"); break;
            case 13: pair.ask("pass", about(longestPass)); break;
            case 14: pair.ask("drift", about(mostDrift)); break;
            case 15: case 16: pair.ask("round", below(9) - 3); break;
            case 17: pair.ask("two", g); break;
            case 18: pair.ask("reword", what); break;
            case 19: pair.ask("chain", a, b, what); break;
            case 20: pair.ask("lost", a); break;
            case 21: pair.ask("sold", about(10), b, what); break;
            case 22: case 23: pair.ask("thief", about(7), about(7), g, what); break;
            case 24: pair.ask("vote", below(6) - 1); break;
            case 25: pair.ask("bestWord"); break;
            case 26: pair.ask("tell", a, about(60)); break;
            case 27: case 28: pair.ask("days"); break;
            case 29: pair.ask("where", about(80)); break;
            case 30: pair.ask("write", a, about(60)); break;
            case 31: pair.ask("write", a, Math.max(0, pair.peek("deed", a, 6))); break;
            case 32: pair.ask("judge"); break;
            case 33: if (below(3) == 0) pair.ask("tear"); break;
            case 34: doWhatCanBe(a); break;
            case 35: pair.ask("seed", draws.nextInt()); break;
            case 36: pair.ask("keep", what); break;
            case 37: case 38: pair.ask("goBack", what); break;
            default: tellWhatCanBe(a);
        }
    }

    // By chance alone few deeds would be done, and hardly any telling would ever be true.
    private void doWhatCanBe(int i) {
        if (pair.peek("deed", i, 5) == 0 && pair.callsLeft() > 1) {
            pair.ask("lend", pair.peek("deed", i, 0));
            pair.ask("act", i);
        }
    }

    private void tellWhatCanBe(int i) {
        int home = pair.peek("person", pair.peek("deed", i, 0), 0);
        pair.ask("tell", i, pair.peek("deed", i, 1) + Math.max(0, pair.peek("far", pair.peek("told", 6), home)));
    }
}
