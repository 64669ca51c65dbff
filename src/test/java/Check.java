/** What the tests share: counts wrong answers, feeds texts. */
final class Check {
    private int wrong;
    private int asked;
    private final String test;

    Check(String test) {
        this.test = test;
    }

    void due(String call, int got, int want) {
        asked++;
        if (got != want) {
            wrong++;
            System.out.println(test + ": " + call + " answered " + got + ", due is " + want);
        }
    }

    void holds(String what, boolean so) {
        asked++;
        if (!so) {
            wrong++;
            System.out.println(test + ": " + what + " does not hold");
        }
    }

    static void feed(LoneAdjective x, String text) {
        for (int k = 0; k < text.length(); k++) {
            x.feed(text.charAt(k));
        }
    }

    static LoneAdjective townOf(String text) {
        LoneAdjective x = new LoneAdjective();
        feed(x, text);
        x.town();
        return x;
    }

    void end() {
        System.out.println(test + ": " + asked + " answers, " + wrong + " wrong");
        System.exit(wrong == 0 ? 0 : 1);
    }
}
