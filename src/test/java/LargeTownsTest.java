import java.util.ArrayList;
import java.util.Collections;
import java.util.List;
import java.util.Random;

/** Towns as large as 250 letters hold them, all promises in them, and runs that go on to the 512th call. */
public final class LargeTownsTest {
    private static final Check C = new Check("LargeTownsTest");
    private static final int DRAWN = 56;
    private static final int MOST_LETTERS = 250;

    public static void main(String[] args) {
        readBack();
        oneTooMany();
        distances();
        trust();
        sales();
        thieves();
        triedInTheCrowd();
        triedInTheSpread();
        triedLate();
        daysOfLarge();
        drawsOfLarge();
        imagesOfLarge();
        toTheLastCall();
        mostOfEachIsDrawn();
        for (int k = 0; k < DRAWN; k++) {
            drawn(k);
        }
        C.end();
    }

    private static Run on(String text, String sentence) {
        return new Run(C, sentence).town(text);
    }

    // ---- the text

    private static void readBack() {
        for (String text : new String[] {Towns.CROWD, Towns.SPREAD, Towns.LATE}) {
            C.due("letters of " + text, text.length(), MOST_LETTERS);
            new Run(C, "promise 2: FULL (250)").feeds(text).is("told(4) = 250; feed(59) = FULL; told(4) = 250; town() = 6; told(4) = 0;"
                + "fault() = NONE; told(0) = 7; told(2) = 6; told(3) = 4; told(5) = 0; told(7) = NONE; told(8) = 0; told(9) = 0");
            each(text);
        }
        on(Towns.CROWD, "promise 5").is("told(1) = 5; told(6) = 2; person(5, 0) = UNKNOWN");
        on(Towns.SPREAD, "promise 5").is("told(1) = 6; told(6) = 4; person(5, 0) = 1; person(6, 0) = UNKNOWN");
        on(Towns.LATE, "promise 5").is("told(1) = 6; told(6) = 4; deed(6, 0) = UNKNOWN; lets(4) = UNKNOWN");
    }

    /** Each number that the text tells is answered. */
    private static void each(String text) {
        Run run = on(text, "promises 6 to 10");
        int people = 0, deeds = 0, words = 0;
        for (String clause : text.split(";")) {
            String[] n = clause.substring(1).split(" ");
            switch (clause.charAt(0)) {
                case 'w': C.holds(clause, run.call("far", number(n[0]), number(n[1])) <= number(n[2])); break;
                case 'p': run.is("person(" + people + ", 0) = " + n[0] + "; person(" + people++ + ", 1) = " + n[1]); break;
                case 'd':
                    for (int what = 0; what < 4; what++) run.is("deed(" + deeds + ", " + what + ") = " + n[what]);
                    deeds++;
                    break;
                case 'r': run.is("deed(" + n[0] + ", 4) = " + n[1]); break;
                case 'q': run.is("trust(" + n[0] + ", " + n[1] + ") = " + n[2]); break;
                case 'o': run.is("lets(" + words++ + ") = " + n[0]); break;
                default: break;
            }
        }
    }

    private static int number(String s) {
        return Integer.parseInt(s);
    }

    private static void oneTooMany() {
        String most = Towns.SPREAD.substring(0, Towns.SPREAD.indexOf('r'));
        for (String word : "t w p d".split(" ")) {
            new Run(C, "fault 3, all else as it was").is("pass(3)").faulty(3, most + "^" + word)
                .is("told(0) = 0; told(1) = 0; told(5) = 3");
        }
        new Run(C, "fault 3").faulty(3, Towns.CROWD.substring(0, Towns.CROWD.indexOf('o')) + "^q");
        new Run(C, "fault 3").faulty(3, Towns.LATE.substring(0, Towns.LATE.indexOf('r')) + "o43;o63;o18;o15;^o");
        new Run(C, "the end at the text's length").faulty(1, Towns.LATE.substring(0, 249) + "^");
        new Run(C, "the last letter").faulty(1, Towns.LATE.substring(0, 249) + "^o");
        new Run(C, "the last number").faulty(2, Towns.LATE.substring(0, 246) + "o^64;");
    }

    // ---- trust, minutes, thieves

    private static void distances() {
        on(Towns.CROWD, "promise 6").is("far(0, 1) = 2; far(0, 2) = 1; far(0, 3) = 1; far(0, 4) = 2; far(0, 5) = 3; far(0, 6) = 3;"
            + "far(1, 2) = 1; far(1, 3) = 3; far(1, 4) = 2; far(1, 5) = 3; far(1, 6) = 5; far(2, 3) = 2; far(2, 4) = 1; far(2, 5) = 2;"
            + "far(2, 6) = 4; far(3, 4) = 3; far(3, 5) = 4; far(3, 6) = 2; far(4, 5) = 1; far(4, 6) = 5; far(5, 6) = 6; far(6, 5) = 6");
        on(Towns.SPREAD, "promise 6").is("far(0, 1) = 4; far(0, 2) = 3; far(0, 3) = 4; far(0, 4) = 5; far(0, 5) = 6; far(0, 6) = 1;"
            + "far(1, 2) = 6; far(1, 3) = 1; far(1, 4) = 8; far(1, 5) = 3; far(1, 6) = 4; far(2, 3) = 5; far(2, 4) = 2; far(2, 5) = 4;"
            + "far(2, 6) = 2; far(3, 4) = 7; far(3, 5) = 2; far(3, 6) = 3; far(4, 5) = 6; far(4, 6) = 4; far(5, 6) = 5; far(4, 1) = 8");
        on(Towns.LATE, "promise 6").is("far(0, 1) = 13; far(0, 2) = NONE; far(0, 3) = 15; far(0, 4) = 27; far(0, 5) = 25; far(0, 6) = 16;"
            + "far(1, 4) = 25; far(1, 5) = 22; far(2, 6) = NONE; far(3, 4) = 34; far(3, 6) = 23; far(4, 5) = 46; far(4, 6) = 11;"
            + "far(5, 6) = 35; far(2, 2) = 0");
    }

    private static void trust() {
        on(Towns.CROWD, "promise 19: BEST CHAIN").is("chain(0, 1, 0) = 405000000; chain(0, 1, 1) = 4; chain(0, 2, 0) = 450000000;"
            + "chain(0, 2, 1) = 3; chain(0, 3, 0) = 500000000; chain(0, 3, 1) = 2; chain(0, 4, 0) = 243000000; chain(0, 4, 1) = 5;"
            + "chain(1, 0, 0) = 486000000; chain(1, 0, 1) = 4; chain(1, 2, 0) = 486000000; chain(1, 2, 1) = 4; chain(2, 3, 1) = 4;"
            + "chain(3, 4, 0) = 486000000; chain(3, 4, 1) = 4; chain(4, 1, 0) = 729000000; chain(4, 1, 1) = 4; chain(4, 3, 1) = 2");
        on(Towns.SPREAD, "promise 19: BEST CHAIN, NONE").is("chain(2, 0, 0) = 40500000; chain(2, 0, 1) = 5; chain(2, 5, 0) = 45000000;"
            + "chain(2, 5, 1) = 4; chain(3, 1, 0) = 81000000; chain(3, 1, 1) = 4; chain(4, 2, 0) = 490000000; chain(4, 2, 1) = 3;"
            + "chain(5, 4, 0) = NONE; chain(5, 4, 1) = NONE; chain(0, 5, 0) = NONE; chain(1, 0, 1) = NONE");
        on(Towns.CROWD, "promise 20: LOST").is("lost(0) = 0; lost(1) = 0; lost(2) = 0; lost(3) = 0; lost(4) = 0; lost(5) = UNKNOWN");
        on(Towns.SPREAD, "promise 20: LOST").is("lost(0) = 62; lost(1) = 61; lost(2) = 0; lost(3) = 0; lost(4) = 0; lost(5) = 28");
        on(Towns.LATE, "promise 20: LOST").is("lost(0) = 62; lost(1) = 61; lost(2) = 59; lost(3) = 55; lost(4) = 47; lost(5) = 31");
    }

    private static void sales() {
        on(Towns.CROWD, "promise 21: SOLD").is("sold(9, 0, 0) = 3; sold(9, 0, 1) = 15; sold(9, 1, 0) = 4; sold(9, 1, 1) = 21;"
            + "sold(9, 2, 0) = 0; sold(9, 2, 1) = 0; sold(9, 3, 0) = 0; sold(9, 4, 0) = 2; sold(9, 4, 1) = 9");
        on(Towns.SPREAD, "promise 21: SOLD").is("sold(9, 0, 0) = 3; sold(9, 0, 1) = 18; sold(9, 1, 0) = 1; sold(9, 1, 1) = 5;"
            + "sold(9, 2, 0) = 3; sold(9, 2, 1) = 17; sold(9, 3, 0) = 1; sold(9, 4, 0) = 1; sold(9, 5, 0) = 0; sold(9, 5, 1) = 0");
        on(Towns.LATE, "promise 21: SOLD").is("sold(9, 0, 0) = 0; sold(9, 1, 0) = 4; sold(9, 1, 1) = 387; sold(9, 2, 1) = 0;"
            + "sold(9, 3, 0) = 2; sold(9, 3, 1) = 193; sold(9, 4, 0) = 1; sold(9, 4, 1) = 96; sold(9, 5, 0) = 2; sold(9, 5, 1) = 191");
    }

    private static void thieves() {
        on(Towns.CROWD, "promise 22: THIEF").is("thief(2, 0, 0, 0) = 0; thief(2, 0, 0, 1) = NONE; thief(0, 1, 0, 1) = 0;"
            + "thief(1, 2, 0, 0) = 1; thief(1, 2, 0, 1) = 1; thief(5, 4, 0, 0) = 1; thief(5, 4, 0, 1) = 2; thief(4, 2, 0, 0) = 2;"
            + "thief(4, 2, 0, 1) = 1; thief(1, 0, 0, 0) = 2; thief(1, 0, 0, 1) = 2; thief(4, 0, 1, 0) = 2; thief(4, 0, 1, 1) = 3");
        on(Towns.SPREAD, "promise 22: nobody is caught but at first").is("thief(1, 0, 0, 0) = 0; thief(2, 1, 0, 0) = 0;"
            + "thief(2, 4, 0, 0) = 1; thief(2, 4, 0, 1) = 2; thief(2, 6, 1, 1) = 2; thief(5, 1, 0, 1) = 1; thief(3, 3, 0, 0) = 2");
        on(Towns.LATE, "promise 22: THIEF").is("thief(5, 2, 4, 0) = 1; thief(5, 2, 4, 1) = 3; thief(4, 2, 5, 1) = 3; thief(4, 5, 0, 0) = 2;"
            + "thief(4, 5, 0, 1) = 3; thief(0, 4, 2, 0) = 2; thief(0, 4, 2, 1) = 3; thief(2, 0, 0, 0) = 0; thief(0, 5, 4, 0) = 1;"
            + "thief(0, 5, 4, 1) = 2; thief(3, 0, 0, 1) = 1; thief(1, 0, 0, 1) = 2");
    }

    // ---- rounds, other words, by what is done

    private static void triedInTheCrowd() {
        on(Towns.CROWD, "promises 16 to 18, 23, 24").is("round(-1) = 26; round(-2) = 7; round(0) = 1; round(1) = 3; round(2) = 2;"
            + "round(3) = 5; round(4) = NONE; two(0) = 33; two(1) = 33; two(2) = 36; two(3) = 31; two(4) = 36; two(5) = 36; two(6) = 26;"
            + "reword(0) = NONE; reword(1) = NONE; vote(-1) = 0; vote(0) = 2; vote(1) = 0; vote(2) = 0; vote(3) = 1; bestWord() = 3;"
            + "lend(2) = 1; act(1) = 3; round(-1) = 21; round(0) = 3; round(3) = NONE; two(2) = 24; two(5) = 28; two(6) = 21;"
            + "vote(0) = 1; lend(1) = 3; act(3) = 5; told(9) = 17; lend(4) = 5; act(2) = 6; act(5) = 7; told(8) = 46; told(10) = 26;"
            + "round(-1) = 0; round(-2) = 7; two(4) = 0; reword(0) = 0; vote(-1) = NONE; bestWord() = 0");
    }

    private static void triedInTheSpread() {
        on(Towns.SPREAD, "promises 16 to 18, 23, 24").is("round(-1) = 21; round(-2) = 5; round(0) = 1; round(1) = 3; round(2) = 4;"
            + "round(3) = 5; round(4) = NONE; two(0) = 28; two(1) = 37; two(2) = 30; two(3) = 37; two(4) = 21; two(5) = 37; two(6) = 28;"
            + "reword(0) = 5; reword(1) = 8; vote(-1) = 0; vote(0) = 2; vote(1) = 1; vote(2) = 0; vote(3) = 0; bestWord() = 2;"
            + "lend(1) = 0; act(1) = 1; round(-1) = 18; round(0) = 3; two(1) = 27; two(3) = 34; reword(0) = 5; vote(0) = 1; vote(1) = 1;"
            + "lend(2) = 1; act(3) = 2; lend(1) = 2; act(4) = 4; lend(2) = 4; act(5) = 5; told(8) = 58; told(9) = 4; told(10) = 21;"
            + "round(-1) = 0; round(-2) = 5; two(0) = 0; two(1) = 7; two(3) = 7; reword(0) = 1; reword(1) = 3; vote(-1) = 1;"
            + "bestWord() = 1");
    }

    private static void triedLate() {
        on(Towns.LATE, "promises 16 to 18, 23, 24").is("round(-1) = 305; round(-2) = 174; round(0) = 1; round(1) = 4; round(2) = 5;"
            + "round(3) = 0; round(4) = 3; round(5) = NONE; two(0) = 333; two(2) = 305; two(6) = 333; reword(0) = 2; reword(1) = 5;"
            + "vote(-1) = 0; vote(0) = 2; vote(1) = 2; vote(2) = 0; vote(3) = 0; bestWord() = 1; lend(4) = 25; act(1) = 52;"
            + "round(-1) = 265; round(0) = 4; round(4) = NONE; two(2) = 265; two(4) = 293; reword(0) = 1; reword(1) = 11; act(4) = 76;"
            + "act(5) = 106; told(8) = 50; told(9) = 4; lend(5) = 128; act(0) = 139; lend(3) = 164; act(3) = 174; told(8) = 59;"
            + "told(10) = 305; deed(4, 6) = 76; deed(2, 6) = NONE; deed(2, 5) = 2; write(1, 52); write(3, 174); judge() = NONE;"
            + "write(2, 115); judge() = 2; round(-1) = 0; reword(0) = 0");
    }

    // ---- days, draws, images

    private static void daysOfLarge() {
        on(Towns.CROWD, "promises 26, 27").is("days() = 113; where(0) = 52; where(999) = 52; tell(5, 7); days() = 6; where(4) = 48;"
            + "where(5) = 16; tell(2, 6); days() = 3; where(3) = 48; where(4) = 16; tell(3, 5); days() = 1; where(0) = 16; tell(1, 3);"
            + "days() = 1; tell(1, 4); days() = 0; where(9) = 0");
        on(Towns.SPREAD, "promises 26, 27").is("days() = 65; where(0) = 16; tell(5, 5); days() = 6; tell(4, 4); days() = 2; tell(3, 2);"
            + "days() = 1; where(999) = 16; tear() = 3; days() = 65");
        on(Towns.LATE, "promises 26, 27").is("days() = 560; where(0) = 59; where(999) = 59; tell(3, 174); days() = 8; where(0) = 10;"
            + "where(20) = 10; where(60) = 2; where(90) = 2; where(105) = 2; where(106) = 32; where(138) = 32; where(139) = 1;"
            + "where(999) = 1; tell(5, 106); days() = 2; where(0) = 2; tell(4, 76); days() = 1; tell(1, 52); days() = 1; told(11) = 4");
    }

    private static void drawsOfLarge() {
        on(Towns.CROWD, "promise 15").is("drift(1) = 2; told(7) = 0; told(8) = 16; drift(1) = 5; told(6) = 5; told(8) = 17; told(9) = 10;"
            + "drift(1) = 6; drift(1) = 8; drift(2) = 12; drift(4) = 16; drift(10) = 30; drift(30) = 67; drift(30) = 110; told(7) = 4;"
            + "100 * drift(30); told(5) = 4088; told(7) = 4; seed(0) = 1777644312");
        on(Towns.SPREAD, "promise 15").is("drift(1) = 8; told(6) = 3; told(7) = 0; drift(1) = 9; drift(1) = 12; told(6) = 5; drift(1) = 19;"
            + "drift(2) = 35; drift(4) = 45; drift(10) = 95; drift(30) = 242; drift(30) = 404; told(6) = 0; told(7) = 3; told(8) = 0;"
            + "100 * drift(30); told(5) = 15210; told(6) = 5; seed(0) = 1777644312");
        on(Towns.LATE, "promise 15").is("drift(1) = 35; drift(1) = 36; drift(1) = 73; told(6) = 1; told(7) = 4; told(8) = 2; drift(1) = 99;"
            + "drift(2) = 169; told(9) = 53; drift(4) = 217; told(9) = 61; drift(10) = 414; drift(30) = 967; drift(30) = 1586;"
            + "100 * drift(30); told(5) = 54323; told(6) = 1; told(7) = 4; seed(0) = 1777644312");
    }

    private static void imagesOfLarge() {
        on(Towns.LATE, "promises 32, 33").is("lend(4); act(1) = 52; seed(77); keep(0) = 1; act(4) = 76; act(5) = 106; seed(78) = 77;"
            + "keep(1) = 1; lend(5); act(0) = 139; goBack(0) = 1; told(5) = 52; told(8) = 2; round(-1) = 265; act(4) = 76; goBack(1) = 1;"
            + "told(5) = 106; told(6) = 1; told(7) = 4; told(8) = 50; told(9) = 4; deed(5, 6) = 106; deed(0, 5) = 0; seed(0) = 78;"
            + "lend(5) = 128; act(0) = 139; goBack(0); seed(0) = 77; deed(4, 6) = NONE")
            .is("town() = 0; goBack(0) = NOT; goBack(1) = NOT; told(0) = 0; round(-1) = 0");
    }

    /** 252 calls are the text, town and fault; the 512th is looked at. */
    private static void toTheLastCall() {
        on(Towns.SPREAD, "512 calls").is("drift(1) = 8; drift(1) = 9; drift(1) = 12; drift(1) = 19; drift(2) = 35; drift(4) = 45;"
            + "drift(10) = 95; drift(30) = 242; drift(30) = 404; keep(1); 75 * thief(3, 4, 0, 1) = 2; 74 * two(3) = 0; 100 * drift(30);"
            + "told(5) = 15210").usedUp();
        on(Towns.LATE, "512 calls").is("keep(0); 60 * reword(0) = 2; 60 * days() = 560; 60 * where(7) = 59; 41 * round(3) = 0;"
            + "lend(4) = 25; act(1) = 52; act(4) = 76; act(5) = 106; lend(5) = 128; act(0) = 139; lend(3) = 164; act(3) = 174;"
            + "9 * told(8) = 59; goBack(0); 9 * pass(999); told(5) = 8991; goBack(0) = 1; told(5) = 0; lend(4) = 25; act(1) = 52;"
            + "told(8) = 2; 3 * write(1, 52); told(12) = 3; judge() = NONE").usedUp();
    }

    // ---- towns by draws, against the oracle

    private static Random drawsOf(int k) {
        return new Random(1000 + k);
    }

    private static void mostOfEachIsDrawn() {
        int[] most = new int[4];
        for (int k = 0; k < DRAWN; k++) {
            String text = largeTown(drawsOf(k));
            for (int kind = 0; kind < 4; kind++) {
                String others = "[^" + "wqor".charAt(kind) + "]";
                most[kind] = Math.max(most[kind], text.replaceAll(others, "").length());
            }
        }
        C.due("the most ways", most[0], 10);
        C.due("the most of 'q'", most[1], 12);
        C.due("the most other words", most[2], 4);
        C.due("the most of 'r'", most[3], 6);
    }

    private static void drawn(int k) {
        Random draws = drawsOf(k);
        String text = largeTown(draws);
        whatWasTold(text, k);
        trustAndSales(text, k);
        thievesAndTried(text, k);
        whereItWas(text, k, draws);
        longRun(text, k, draws);
    }

    /** All squares, people and deeds; of the rest as much as the letters hold, what comes first by draws. */
    private static String largeTown(Random draws) {
        boolean late = draws.nextBoolean();
        StringBuilder s = new StringBuilder("t7 " + draws.nextInt(7) + ";");
        for (int p = 0; p < 6; p++) s.append("p" + draws.nextInt(7) + " " + draws.nextInt(10) + ";");
        for (int i = 0; i < 6; i++) {
            int due = late ? 10 + draws.nextInt(60) : 4 + draws.nextInt(6);
            s.append("d" + draws.nextInt(6) + " " + (1 + draws.nextInt(late ? 9 : 2)) + " " + due + " " + draws.nextInt(10) + ";");
        }
        List<List<String>> kinds = new ArrayList<>(List.of(ways(draws), prices(draws), trusts(draws), words(draws)));
        Collections.shuffle(kinds, draws);
        for (List<String> kind : kinds) {
            for (String clause : kind) {
                if (s.length() + clause.length() <= MOST_LETTERS) s.append(clause);
            }
        }
        return s.toString();
    }

    private static List<String> some(int most, List<String> all, Random draws) {
        Collections.shuffle(all, draws);
        return all.subList(0, most);
    }

    private static List<String> ways(Random draws) {
        List<String> all = new ArrayList<>();
        for (int a = 0; a < 7; a++) {
            for (int b = 0; b < a; b++) all.add("w" + a + " " + b + " " + (1 + draws.nextInt(9)) + ";");
        }
        return some(10, all, draws);
    }

    private static List<String> trusts(Random draws) {
        List<String> all = new ArrayList<>();
        for (int a = 0; a < 6; a++) {
            for (int b = 0; b < 6; b++) if (a != b) all.add("q" + a + " " + b + " " + draws.nextInt(10) + ";");
        }
        return some(12, all, draws);
    }

    private static List<String> prices(Random draws) {
        List<String> all = new ArrayList<>();
        for (int i = 0; i < 6; i++) all.add("r" + i + " " + draws.nextInt(10) + ";");
        return some(6, all, draws);
    }

    private static List<String> words(Random draws) {
        List<String> all = new ArrayList<>();
        for (int o = 0; o < 4; o++) all.add("o" + (1 + draws.nextInt(63)) + ";");
        return all;
    }

    private static Pair pairIn(String text, String part, int k) {
        Pair pair = new Pair(C, part + " of town " + k + ", " + text);
        C.due("deeds of " + text, pair.feeds(text), 6);
        return pair;
    }

    private static void whatWasTold(String text, int k) {
        Pair pair = pairIn(text, "told", k);
        for (int what = -1; what < 14; what++) pair.ask("told", what);
        for (int a = 0; a < 7; a++) {
            for (int b = 0; b < 8; b++) pair.ask("far", a, b);
        }
        for (int a = 0; a < 7; a++) {
            for (int what = 0; what < 3; what++) pair.ask("person", a, what);
            for (int what = 0; what < 8; what++) pair.ask("deed", a, what);
            for (int b = 0; b < 7; b++) pair.ask("trust", a, b);
        }
        for (int o = 0; o < 5; o++) pair.ask("lets", o);
    }

    private static void trustAndSales(String text, int k) {
        Pair pair = pairIn(text, "trust", k);
        for (int a = 0; a < 6; a++) {
            pair.ask("lost", a);
            for (int b = 0; b < 6; b++) {
                pair.ask("chain", a, b, 0);
                pair.ask("chain", a, b, 1);
            }
            for (int n = 1; n < 10; n++) {
                pair.ask("sold", n, a, 0);
                pair.ask("sold", n, a, 1);
            }
        }
    }

    private static void thievesAndTried(String text, int k) {
        Pair pair = pairIn(text, "tried", k);
        for (int a = 0; a < 7; a++) {
            for (int b = 0; b < 7; b++) {
                pair.ask("thief", a, b, k % 7, 0);
                pair.ask("thief", a, b, k % 7, 1);
            }
        }
        for (int minute = 0; minute < 4; minute++) {
            tried(pair);
            pair.ask("pass", 1 + minute);
        }
    }

    private static void tried(Pair pair) {
        for (int i = -2; i < 7; i++) pair.ask("round", i);
        for (int a = 0; a < 7; a++) pair.ask("two", a);
        pair.ask("reword", 0);
        pair.ask("reword", 1);
        for (int o = -1; o < 5; o++) pair.ask("vote", o);
        pair.ask("bestWord");
    }

    /** Does what the best round does, tells it, deed by deed, and asks where the word was. */
    private static void whereItWas(String text, int k, Random draws) {
        Pair pair = pairIn(text, "where", k);
        for (int i = pair.ask("round", 0); i >= 0; i = pair.ask("round", 0)) {
            pair.ask("days");
            for (int n = 0; n < 8; n++) pair.ask("where", draws.nextInt(n < 6 ? 12 : 80));
            pair.ask("lend", pair.peek("deed", i, 0));
            int end = pair.ask("act", i);
            pair.ask("tell", i, end);
            pair.ask("write", i, end);
            pair.ask("judge");
        }
        pair.ask("days");
        for (int t = 0; t < 70; t++) pair.ask("where", t);
        for (int what = 5; what < 13; what++) pair.ask("told", what);
        pair.ask("tear");
        pair.ask("judge");
        pair.ask("days");
    }

    private static void longRun(String text, int k, Random draws) {
        Pair pair = pairIn(text, "run", k);
        AnyCall calls = new AnyCall(draws, pair, k % 8 == 0 ? 999 : 4, k % 4 == 0 ? 30 : 3);
        while (pair.callsLeft() > 0) calls.make();
    }
}
