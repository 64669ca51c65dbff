import java.util.List;

/** What the tests share: counts wrong answers, feeds texts. */
final class Check {
    // Written out, so that a change of the class's own constants is seen.
    static final int NONE = -1, UNKNOWN = -1000000001, OUTSIDE = -1000000002, NOT = -1000000003, FULL = -1000000004;

    private int wrong;
    private int asked;
    private final String test;

    Check(String test) {
        this.test = test;
    }

    void due(String call, int got, int want) {
        asked++;
        if (got != want) {
            wrong++;
            System.out.println(test + ": " + call + " answered " + got + ", due is " + want);
        }
    }

    void holds(String what, boolean so) {
        asked++;
        if (!so) {
            wrong++;
            System.out.println(test + ": " + what + " does not hold");
        }
    }

    void alike(String what, List<String> got, List<String> want) {
        asked++;
        if (!got.equals(want)) {
            wrong++;
            int k = 0;
            while (k < got.size() && k < want.size() && got.get(k).equals(want.get(k))) k++;
            System.out.println(test + ": " + what + ": " + (k < got.size() ? got.get(k) : "end") + ", due is "
                + (k < want.size() ? want.get(k) : "end"));
        }
    }

    static void feed(LoneAdjective x, String text) {
        for (int k = 0; k < text.length(); k++) {
            x.feed(text.charAt(k));
        }
    }

    static LoneAdjective townOf(String text) {
        LoneAdjective x = new LoneAdjective();
        feed(x, text);
        x.town();
        return x;
    }

    void end() {
        System.out.println(test + ": " + asked + " answers, " + wrong + " wrong");
        System.exit(wrong == 0 ? 0 : 1);
    }
}
