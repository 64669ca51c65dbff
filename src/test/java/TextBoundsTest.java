/** The bounds that the document names for the text: its letters, clauses, numbers and faults (promises 1 to 4). */
public final class TextBoundsTest {
    private static final Check C = new Check("TextBoundsTest");
    private static final String PERSON = "p0 0;", DEED = "d0 1 9 1;";

    public static void main(String[] args) {
        lettersOfFeed();
        textsOf250();
        emptyTexts();
        numbersOfT();
        numbersOfW();
        numbersOfP();
        numbersOfD();
        numbersOfR();
        numbersOfQ();
        numbersOfO();
        clausesAtMost();
        toldAhead();
        twiceAndAlike();
        figures();
        blanks();
        everyLetter();
        everyEnd();
        firstLetterThenLeast();
        faultsOfOldAndNew();
        C.end();
    }

    private static Run run(String sentence) {
        return new Run(C, sentence);
    }

    private static void good(String sentence, String text, String script) {
        run(sentence).town(text).is(script);
    }

    private static void faulty(String sentence, int number, String marked) {
        run(sentence).faulty(number, marked).is("told(0) = 0");
    }

    /** For # comes a number: at its bounds it is good and the script holds, beyond them it is fault 2, below 0 fault 1. */
    private static void bounds(String sentence, String text, int low, int high, String script) {
        for (int value : new int[] {low, high}) {
            good(sentence, text.replace("#", "" + value), script.replace("#", "" + value));
        }
        faulty(sentence, low == 0 ? 1 : 2, text.replace("#", "^" + (low - 1)));
        faulty(sentence, 2, text.replace("#", "^" + (high + 1)));
    }

    private static void lettersOfFeed() {
        run("promise 2: a letter is a number 0 .. 255").is("feed(-1) = OUTSIDE; feed(256) = OUTSIDE; feed(MIN) = OUTSIDE;"
            + "feed(MAX) = OUTSIDE; told(4) = 0; feed(0) = 1; feed(255) = 2; feed(-1) = OUTSIDE; told(4) = 2");
        run("promise 2: FULL (250)").is("249 * feed(32); feed(32) = 250; feed(32) = FULL; feed(0) = FULL; feed(255) = FULL;"
            + "told(4) = 250; town() = 0; told(4) = 0; feed(32) = 1");
        run("promise 2: OUTSIDE ahead of FULL").is("250 * feed(32); feed(-1) = OUTSIDE; feed(256) = OUTSIDE; told(4) = 250");
        Run each = run("promise 2: how many it has");
        for (int k = 1; k <= 250; k++) {
            each.is("feed(" + (k % 256) + ") = " + k);
        }
        each.is("feed(1) = FULL; told(4) = 250");
    }

    private static void textsOf250() {
        String text = "t1 0;" + PERSON + " ".repeat(231) + DEED;
        C.due("letters", text.length(), 250);
        good("250 letters at most: the last one is read", text, "told(2) = 1");
        run("a letter that was FULL is not in the text").feeds(text).is("feed(120) = FULL; town() = 1; fault() = NONE");
        run("a text of 250 letters without its last is at fault at 249").faulty(1, text.substring(0, 249) + "^");
        faulty("the end of 250 letters", 1, "t1 0;" + " ".repeat(244) + "p^");
        faulty("the end of 250 letters", 1, "t1" + " ".repeat(247) + "0^");
        faulty("the last of 250 letters", 1, " ".repeat(249) + "^w");
        faulty("a NUMBER up to the last of 250 letters", 2, "t^" + "0".repeat(249));
    }

    private static void emptyTexts() {
        String nothing = "told(0) = 0; told(1) = 0; told(2) = 0; told(3) = 0; told(4) = 0; told(5) = 0; told(6) = NONE;"
            + "told(7) = NONE; told(8) = 0; told(9) = 0; told(10) = 0; told(11) = 0; told(12) = 0; far(0, 0) = UNKNOWN";
        run("promise 1: no SQUARES").is("fault() = NONE;" + nothing);
        run("an empty text: no SQUARES").is("town() = 0; fault() = NONE;" + nothing);
        run("an empty text behind a town: no SQUARES").town(Towns.MARKET).is("lend(0); act(0); tell(0, 2); write(0, 2); pass(5)")
            .is("town() = 0; fault() = NONE;" + nothing);
        run("a text of blanks alone").feeds("   ").is("town() = 0; fault() = NONE;" + nothing);
    }

    private static void numbersOfT() {
        bounds("'t': N 1 .. 7", "t# 0;", 1, 7, "told(0) = #; told(6) = 0; far(0, #) = UNKNOWN");
        for (int n = 1; n <= 7; n++) {
            bounds("'t': SQUARES 0 .. N less 1", "t" + n + " #;", 0, n - 1, "told(0) = " + n + "; told(6) = #");
        }
    }

    private static void numbersOfW() {
        for (int n = 3; n <= 7; n++) {
            bounds("'w': A is a SQUARE", "t" + n + " 0;w# 1 5;", 0, n - 1, "far(#, 1) = 5");
            bounds("'w': B is a SQUARE", "t" + n + " 0;w1 # 5;", 0, n - 1, "far(1, #) = 5");
        }
        bounds("'w': L 1 .. 30", "t2 0;w0 1 #;", 1, 30, "far(0, 1) = #; far(1, 0) = #");
    }

    private static void numbersOfP() {
        for (int n = 1; n <= 7; n++) {
            bounds("'p': A is a SQUARE", "t" + n + " 0;p# 5;", 0, n - 1, "person(0, 0) = #; person(0, 1) = 5");
        }
        bounds("'p': B 0 .. 99", "t1 0;p0 #;", 0, 99, "person(0, 1) = #");
    }

    private static void numbersOfD() {
        for (int n = 1; n <= 6; n++) {
            bounds("'d': PERSON P told ahead", "t1 0;" + PERSON.repeat(n) + "d# 1 9 1;", 0, n - 1, "deed(0, 0) = #");
        }
        String ahead = "t1 0;" + PERSON;
        bounds("'d': M 1 .. 30", ahead + "d0 # 99 7;", 1, 30, "deed(0, 1) = #; deed(0, 2) = 99; deed(0, 3) = 7");
        bounds("'d': D 1 .. 999", ahead + "d0 1 # 7;", 1, 999, "deed(0, 1) = 1; deed(0, 2) = #; deed(0, 3) = 7");
        bounds("'d': V 0 .. 99", ahead + "d0 1 9 #;", 0, 99, "deed(0, 1) = 1; deed(0, 2) = 9; deed(0, 3) = #");
        good("'d': M may be above D", ahead + "d0 30 1 7;", "deed(0, 1) = 30; deed(0, 2) = 1");
    }

    private static void numbersOfR() {
        for (int n = 1; n <= 6; n++) {
            bounds("'r': DEED I told ahead", "t1 0;" + PERSON + DEED.repeat(n) + "r# 5;", 0, n - 1, "deed(#, 4) = 5");
        }
        bounds("'r': C 0 .. 99", "t1 0;" + PERSON + DEED + "r0 #;", 0, 99, "deed(0, 4) = #");
        good("not reworded", "t1 0;" + PERSON + DEED, "deed(0, 4) = NONE");
    }

    private static void numbersOfQ() {
        for (int n = 3; n <= 6; n++) {
            String ahead = "t1 0;" + PERSON.repeat(n);
            bounds("'q': PERSON A told ahead", ahead + "q# 1 5;", 0, n - 1, "trust(#, 1) = 5; trust(1, #) = NONE");
            bounds("'q': PERSON B told ahead", ahead + "q1 # 5;", 0, n - 1, "trust(1, #) = 5; trust(#, 1) = NONE");
        }
        bounds("'q': Q 0 .. 10", "t1 0;" + PERSON.repeat(2) + "q0 1 #;", 0, 10, "trust(0, 1) = #; trust(1, 0) = NONE");
    }

    private static void numbersOfO() {
        for (int n = 1; n <= 6; n++) {
            String ahead = "t1 0;" + PERSON + DEED.repeat(n);
            bounds("'o': a SET of DEEDS told ahead", ahead + "o#;", 1, (1 << n) - 1, "told(3) = 1; lets(0) = #");
            faulty("'o': 1 .. 63", 2, ahead + "o^64;");
            faulty("'o': 1 .. 63", 2, ahead + "o^65;");
            faulty("'o': 1 .. 63", 2, ahead + "o^999;");
            for (int bit = n; bit < 6; bit++) {
                faulty("'o': bits of DEEDS that there are not", 2, ahead + "o^" + (1 << bit) + ";");
                faulty("'o': bits of DEEDS that there are not", 2, ahead + "o^" + (1 + (1 << bit)) + ";");
            }
        }
    }

    private static void clausesAtMost() {
        String ways = "t7 0;w0 1 1;w0 2 1;w0 3 1;w0 4 1;w0 5 1;w0 6 1;w1 2 9;w1 3 9;w1 4 9;";
        good("10 WAYS at most", ways, "far(1, 5) = 2; far(1, 6) = 2");
        good("10 WAYS at most", ways + "w1 5 1;", "far(1, 5) = 1; far(1, 6) = 2");
        faulty("an eleventh 'w', at it", 3, ways + "w1 5 1;^w1 6 1;");
        faulty("an eleventh 'w', whatever comes behind it", 3, ways + "w1 5 1; ^wx");
        faulty("an eleventh 'w' is the last letter", 3, ways + "w1 5 1;^w");
        String start = "t1 0;";
        good("6 PEOPLE at most", start + PERSON.repeat(6), "told(1) = 6; person(5, 0) = 0; person(6, 0) = UNKNOWN");
        faulty("a seventh 'p', at it", 3, start + PERSON.repeat(6) + "^" + PERSON);
        faulty("a seventh 'p', whatever comes behind it", 3, start + PERSON.repeat(6) + "^p9");
        good("6 DEEDS at most", start + PERSON + DEED.repeat(6), "town() = 0");
        run("6 DEEDS at most").feeds(start + PERSON + DEED.repeat(6)).is("town() = 6; deed(5, 1) = 1; deed(6, 1) = UNKNOWN");
        faulty("a seventh 'd', at it", 3, start + PERSON + DEED.repeat(6) + "^" + DEED);
        faulty("a seventh 'd', whatever comes behind it", 3, start + PERSON + DEED.repeat(6) + "^d9");
        String four = start + PERSON.repeat(4) + "q0 1 1;q0 2 2;q0 3 3;q1 0 4;q1 2 5;q1 3 6;q2 0 7;q2 1 8;q2 3 9;q3 0 10;q3 1 0;";
        good("12 'q' at most", four, "trust(3, 1) = 0; trust(3, 2) = NONE");
        good("12 'q' at most", four + "q3 2 1;", "trust(0, 1) = 1; trust(3, 0) = 10; trust(3, 2) = 1");
        faulty("a 13th 'q', at it", 3, four + "q3 2 1;^q0 1 1;");
        faulty("a 13th 'q', whatever comes behind it", 3, four + "q3 2 1;^q");
        String deed = start + PERSON + DEED;
        good("4 OTHER WORDS at most", deed + "o1;o1;o1;o1;", "told(3) = 4; lets(3) = 1; lets(4) = UNKNOWN");
        faulty("a fifth 'o', at it", 3, deed + "o1;o1;o1;o1;^o1;");
        faulty("a fifth 'o', whatever comes behind it", 3, deed + "o1;o1;o1;o1;^o0");
        good("'r' for each DEED", start + PERSON + DEED.repeat(6) + "r5 5;r4 4;r3 3;r2 2;r1 1;r0 0;",
            "deed(5, 4) = 5; deed(4, 4) = 4; deed(3, 4) = 3; deed(2, 4) = 2; deed(1, 4) = 1; deed(0, 4) = 0");
        faulty("'t' once", 3, start + "^t1 0;");
        faulty("'t' once", 3, start + PERSON + DEED + "^t");
        for (int n = 0; n <= 6; n++) {
            run("promise 3: how many DEEDS").feeds(start + PERSON + DEED.repeat(n)).is("town() = " + n + "; told(2) = " + n);
        }
    }

    private static void toldAhead() {
        for (String word : "w p d r q o".split(" ")) {
            faulty("another word first than 't'", 1, "^" + word + "0 0 0 0;t1 0;");
            faulty("another word first than 't'", 1, "  ^" + word);
        }
        faulty("'d' ahead of PEOPLE", 2, "t1 0;d^0 1 1 1;p0 0;");
        faulty("'d' ahead of its PERSON", 2, "t1 0;p0 0;d^1 1 1 1;p0 0;");
        faulty("'r' ahead of DEEDS", 2, "t1 0;p0 0;r^0 1;d0 1 1 1;");
        faulty("'r' ahead of its DEED", 2, "t1 0;p0 0;d0 1 1 1;r^1 1;d0 1 1 1;");
        faulty("'q' ahead of PEOPLE", 2, "t1 0;q^0 1 1;p0 0;p0 0;");
        faulty("'q' ahead of its B", 2, "t1 0;p0 0;q0 ^1 1;p0 0;");
        faulty("'q' ahead of its A", 2, "t1 0;p0 0;q^1 0 1;p0 0;");
        faulty("'o' ahead of DEEDS", 2, "t1 0;p0 0;o^1;d0 1 1 1;");
        faulty("'o' of no DEEDS", 2, "t1 0;o^0;");
        faulty("'o' ahead of a DEED of its SET", 2, "t1 0;p0 0;d0 1 1 1;o^3;d0 1 1 1;");
        good("clauses in any row behind what they name", "t2 1;p1 5;d0 1 9 1;o1;p0 6;q1 0 7;r0 3;w1 0 2;d1 2 9 1;o3;",
            "told(1) = 2; told(2) = 2; lets(0) = 1; lets(1) = 3; trust(1, 0) = 7; deed(0, 4) = 3; far(0, 1) = 2; deed(1, 0) = 1");
    }

    private static void twiceAndAlike() {
        faulty("'w': A like B, at the B", 4, "t1 0;w0 ^0 1;");
        faulty("'w': A like B, at the B", 4, "t7 0;w6 ^6 1;");
        faulty("'w': two again, at the B", 4, "t3 0;w0 1 1;w0 2 1;w0 ^1 1;");
        faulty("'w': two again, either way round", 4, "t3 0;w0 1 1;w0 2 1;w1 ^0 1;");
        faulty("'w': two again, at the last two SQUARES", 4, "t7 0;w5 6 1;w6 ^5 1;");
        good("'w': one SQUARE in several WAYS", "t3 0;w0 1 1;w0 2 2;w2 1 3;", "far(0, 1) = 1; far(0, 2) = 2; far(1, 2) = 3");
        faulty("'r' of a DEED again, at the I", 4, "t1 0;p0 0;d0 1 1 1;d0 1 1 1;r0 1;r1 1;r^0 1;");
        faulty("'r' of a DEED again, at the I", 4, "t1 0;p0 0;d0 1 1 1;d0 1 1 1;r1 0;r^1 1;");
        faulty("'q': B like A, at the B", 4, "t1 0;p0 0;q0 ^0 1;");
        faulty("'q': B like A, at the B", 4, "t1 0;p0 0;p0 0;q1 ^1 1;");
        faulty("'q': A to B again, at the B", 4, "t1 0;p0 0;p0 0;q0 1 0;q0 ^1 0;");
        faulty("'q': A to B again, at the B", 4, "t1 0;p0 0;p0 0;p0 0;q2 0 10;q1 0 1;q2 1 1;q2 ^0 9;");
        good("'q': B to A is another", "t1 0;p0 0;p0 0;q0 1 2;q1 0 3;", "trust(0, 1) = 2; trust(1, 0) = 3");
        good("alike PEOPLE, DEEDS, OTHER WORDS", "t1 0;p0 5;p0 5;d0 1 9 1;d0 1 9 1;o3;o3;",
            "told(1) = 2; told(2) = 2; told(3) = 2");
    }

    private static void figures() {
        good("NUMBERS have one figure", "t7 6;p6 9;", "told(0) = 7; told(6) = 6; person(0, 1) = 9");
        good("NUMBERS have two figures", "t07 06;p06 09;", "told(0) = 7; told(6) = 6; person(0, 1) = 9");
        good("NUMBERS have three figures", "t007 006;p006 009;", "told(0) = 7; told(6) = 6; person(0, 1) = 9");
        good("000 is a NUMBER", "t001 000;p000 000;", "told(0) = 1; told(6) = 0; person(0, 1) = 0");
        faulty("a NUMBER of four figures, at its first", 2, "t^0007 6;");
        faulty("a NUMBER of four figures, at its first", 2, "t7 ^0006;");
        faulty("a NUMBER of four figures, at its first", 2, "t7 6;p6 ^0009;");
        faulty("a NUMBER of four figures, at its first", 2, "t1 0;p0 0;d0 1 ^0999 1;");
        faulty("a NUMBER of four figures at the end", 2, "t7 ^0000");
        faulty("a NUMBER of more figures", 2, "t^4294967297 0;");
        faulty("a NUMBER of more figures", 2, "t1 ^18446744073709551616;");
        faulty("no NUMBER", 1, "t^;");
        faulty("no second NUMBER", 1, "t1 ^;");
        faulty("a NUMBER too many", 1, "t1 0 ^0;");
        for (String clause : "w0 1 5 p0 5 d0 1 9 1 r0 5 q0 1 5 o1".split(" (?=[a-z])")) {
            String ahead = "t2 0;p0 0;p0 0;d0 1 9 1;";
            good("as many NUMBERS as it has", ahead + clause + ";", "told(0) = 2");
            faulty("a NUMBER too many", 1, ahead + clause + " ^5;");
            int last = clause.lastIndexOf(' ') + 1;
            faulty("a NUMBER too few", 1, ahead + (last == 0 ? clause.substring(0, 1) : clause.substring(0, last)) + "^;");
            faulty("no ';'", 1, ahead + clause + "^p0 0;");
        }
    }

    private static void blanks() {
        String close = "t2 1;w0 1 30;p0 99;p1 0;d0 1 999 9;r0 12;q0 1 10;o1;";
        String wide = "  " + close.replaceAll("(?<=[;a-z])|(?=;)", "  ").replaceAll(" +", "   ");
        String script = "told(0) = 2; told(6) = 1; far(0, 1) = 30; person(0, 1) = 99; deed(0, 2) = 999; deed(0, 4) = 12;"
            + "trust(0, 1) = 10; lets(0) = 1";
        good("no blanks but between NUMBERS", close, script);
        good("blanks may stand anywhere", wide, script);
        faulty("but within NUMBERS", 1, "t1 0;p0 9 ^9;");
        faulty("but within NUMBERS", 1, "t1 0;p0 0;d0 1 9 9 ^1;");
        faulty("two NUMBERS side by side need one", 2, "t^10;");
        faulty("two NUMBERS side by side need one", 1, "t1 0;p00^;");
        for (int letter : new int[] {0, 9, 10, 13, 31, 33, 160}) {
            faulty("a blank is 32", 1, "t1^" + (char) letter + "0;");
            faulty("a blank is 32", 1, "^" + (char) letter + "t1 0;");
            faulty("a blank is 32", 1, "t1 0;^" + (char) letter);
        }
    }

    /** Each of the 256 letters where a word, a NUMBER, a further figure, a ';' may come. */
    private static void everyLetter() {
        for (int code = 0; code < 256; code++) {
            char c = (char) code;
            boolean figure = c >= '0' && c <= '9';
            letter("the first letter", "", c, c == ' ' ? "good" : c == 't' ? "1 at end" : "1 at it");
            letter("a word", "t1 0;", c,
                c == ' ' ? "good" : c == 't' ? "3 at it" : "wpdrqo".indexOf(c) >= 0 ? "1 at end" : "1 at it");
            letter("a NUMBER", "t1 0;p", c, c == ' ' || c == '0' ? "1 at end" : figure ? "2 at it" : "1 at it");
            letter("a figure or ';'", "t1 0", c,
                c == ';' ? "good" : c == ' ' || c == '0' ? "1 at end" : figure ? "2 ahead" : "1 at it");
            letter("';'", "t1 0 ", c, c == ';' ? "good" : c == ' ' ? "1 at end" : "1 at it");
        }
    }

    private static void letter(String sentence, String ahead, char c, String due) {
        String name = "letter " + (int) c + " for " + sentence;
        if (due.equals("good")) {
            run(name).feeds(ahead + c).is("town() = 0; fault() = NONE");
            return;
        }
        int fault = due.charAt(0) - '0';
        int at = due.endsWith("end") ? ahead.length() + 1 : due.endsWith("ahead") ? ahead.length() - 1 : ahead.length();
        run(name).feeds(ahead + c).is("town() = " + (-10 - fault) + "; fault() = " + at);
    }

    /** Each text that breaks off: good behind a ';', else at fault at its length. */
    private static void everyEnd() {
        String whole = "t2 0; w0 1 3 ;p0 7;p1 9;d0 2 9 5 ;r0 4;q0 1 9;o 1 ; ";
        for (int end = 0; end <= whole.length(); end++) {
            String text = whole.substring(0, end);
            if (text.isBlank() || text.trim().endsWith(";")) {
                run("a text that ends").feeds(text).is("fault() = NONE; town() = " + (text.contains("d") ? 1 : 0) + "; fault() = NONE");
            } else {
                faulty("the end at the text's length", 1, text + "^");
            }
        }
        faulty("the end behind blanks", 1, "t2   ^");
        faulty("the end behind blanks", 1, "t2 0   ^");
    }

    private static void firstLetterThenLeast() {
        faulty("the first letter, though the later fault is less", 2, "t^8x");
        faulty("the first letter, though the later fault is less", 2, "t^8");
        faulty("the first letter, though the later fault is less", 2, "t^0 0;t");
        faulty("the first letter, though the later fault is less", 3, "t1 0;^tx");
        faulty("the first letter, though the later fault is less", 3, "t1 0;^t8 0;");
        faulty("the first letter, though the later fault is less", 4, "t1 0;w0 ^0x");
        faulty("the first letter, though the later fault is less", 4, "t1 0;w0 ^0 99;");
        faulty("the first letter, though the later fault is less", 4, "t1 0;p0 0;d0 1 1 1;r0 1;r^0 100;");
        faulty("the first letter, though the later fault is less", 4, "t1 0;p0 0;q0 ^0 11;");
        faulty("the first letter", 2, "t2 0;w^2 2 1;");
        faulty("the first letter", 2, "t2 0;w^2 9 99;");
        faulty("1 ahead of 2: a NUMBER of four figures that cannot stand there", 1, "t1 0 ^0000;");
        faulty("1 ahead of 2: a NUMBER of four figures that cannot stand there", 1, "t1 0;^0000");
        faulty("1 ahead of 2: a NUMBER of four figures that cannot stand there", 1, "^0000");
        faulty("1 ahead of 3: 't' again that cannot stand there", 1, "t1 ^t1 0;");
        faulty("1 ahead of 3: 't' again that cannot stand there", 1, "t1 0^t1 0;");
        faulty("1 ahead of 3: a fifth 'o' that cannot stand there", 1, "t1 0;p0 0;d0 1 1 1;o1;o1;o1;o1^o1;");
        faulty("2 ahead of 4: a NUMBER of four figures, A like B", 2, "t1 0;w0 ^0000 1;");
        faulty("2 ahead of 4: a NUMBER of four figures, two again", 2, "t2 0;w0 1 1;w0 ^0001 1;");
        faulty("2 ahead of 4: a NUMBER of four figures, a DEED again", 2, "t1 0;p0 0;d0 1 1 1;r0 1;r^0000 1;");
        faulty("2 ahead of 4: a NUMBER of four figures, B like A", 2, "t1 0;p0 0;q0 ^0000 1;");
    }

    private static void faultsOfOldAndNew() {
        run("promise 4: the FAULT of the latest town()").is("fault() = NONE").faulty(1, "^x").town("t1 0;")
            .faulty(2, "t^9").faulty(3, "t1 0;^t").faulty(4, "t1 0;w0 ^0").is("fault() = 8; town() = 0; fault() = NONE");
        run("promise 4: letters fed since do not change it").faulty(2, "t1 ^9;").feeds("t1").is("fault() = 3").feeds(" 0;")
            .is("fault() = 3; town() = 0; fault() = NONE");
        run("promise 3: THE TEXT is empty with a FAULT, too").faulty(1, "t1 0^").feeds(";").is("town() = -11; fault() = 0; told(0) = 0");
        run("promise 3: THE TEXT is empty behind a town").town("t1 0;").feeds("p0 0;").is("town() = -11; fault() = 0; told(1) = 0");
    }
}
