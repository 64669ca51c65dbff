import java.util.Arrays;

/** A town in which a single describing word goes round; what each call promises stands in the document. */
public final class LoneAdjective {
    public static final int NONE = -1, UNKNOWN = -1000000001, OUTSIDE = -1000000002, NOT = -1000000003, FULL = -1000000004;

    private static final int MOST_LETTERS = 250;
    private static final int MOST_SQUARES = 7;
    private static final int MOST_PEOPLE = 6;
    private static final int MOST_DEEDS = 6;
    private static final int MOST_WORDS = 4;
    private static final int MOST_TOLD = 6;
    private static final int MOST_ENTRIES = 15;
    private static final int LAST_MINUTE = 90000;
    private static final int BILLION = 1000000000;

    private static final int OPEN = 0, DONE = 1, LAPSED = 2;

    private final Reader reader = new Reader();
    private int faultAt = NONE;
    private Town current = new Town();
    private Town draft = new Town();
    private final State now = new State();
    private final State firstImage = new State();
    private final State secondImage = new State();
    private final Diary diary = new Diary();
    private final BestRound bestRound = new BestRound();
    private final DoneSets ownSets = new DoneSets();
    private final DoneSets otherSets = new DoneSets();
    private final Days fitting = new Days();
    private final Chains chains = new Chains();
    private final Chase chase = new Chase();
    private final int[] tally = new int[MOST_PEOPLE];
    private final int[] paid = new int[MOST_PEOPLE];

    public LoneAdjective() {
    }

    // ---- the town

    public int feed(int letter) {
        if (letter < 0 || letter > 255) {
            return OUTSIDE;
        }
        return reader.add((char) letter) ? reader.letters : FULL;
    }

    public int town() {
        int fault = reader.read(draft);
        reader.letters = 0;
        if (fault != 0) {
            faultAt = reader.at;
            return -10 - fault;
        }
        faultAt = NONE;
        Town old = current;
        current = draft;
        draft = old;
        current.measure();
        now.beginIn(current);
        firstImage.kept = false;
        secondImage.kept = false;
        fitting.told = 0;
        diary.entries = 0;
        return current.deeds;
    }

    public int fault() {
        return faultAt;
    }

    public int told(int what) {
        switch (what) {
            case 0: return current.squares;
            case 1: return current.people;
            case 2: return current.deeds;
            case 3: return current.words;
            case 4: return reader.letters;
            case 5: return now.minutes;
            case 6: return now.square;
            case 7: return now.holder;
            case 8: return deedsThatAre(DONE);
            case 9: return deedsThatAre(LAPSED);
            case 10: return current.worthOf(deedsThatAre(DONE));
            case 11: return fitting.told;
            case 12: return diary.entries;
            default: return OUTSIDE;
        }
    }

    public int far(int a, int b) {
        if (!current.isSquare(a) || !current.isSquare(b)) {
            return UNKNOWN;
        }
        return current.between(a, b);
    }

    public int person(int p, int what) {
        if (!current.isPerson(p)) {
            return UNKNOWN;
        }
        switch (what) {
            case 0: return current.home[p];
            case 1: return current.bid[p];
            default: return OUTSIDE;
        }
    }

    public int deed(int i, int what) {
        if (!current.isDeed(i)) {
            return UNKNOWN;
        }
        switch (what) {
            case 0: return current.doer[i];
            case 1: return current.lasts[i];
            case 2: return current.due[i];
            case 3: return current.worth[i];
            case 4: return current.price[i];
            case 5: return now.standOf(current, i);
            case 6: return now.doneAt[i];
            default: return OUTSIDE;
        }
    }

    public int trust(int a, int b) {
        if (!current.areTwoPeople(a, b)) {
            return UNKNOWN;
        }
        return current.odds[a][b];
    }

    public int lets(int o) {
        if (!current.isWord(o)) {
            return UNKNOWN;
        }
        return current.allowed[o];
    }

    // ---- what is done

    public int lend(int p) {
        if (!current.isPerson(p)) {
            return UNKNOWN;
        }
        if (!now.reaches(current, p)) {
            return NOT;
        }
        if (now.minutes > LAST_MINUTE) {
            return FULL;
        }
        now.hand(current, p);
        return now.minutes;
    }

    public int act(int i) {
        if (!current.isDeed(i)) {
            return UNKNOWN;
        }
        if (now.standOf(current, i) != OPEN || now.holder != current.doer[i]) {
            return NOT;
        }
        now.finish(current, i);
        return now.minutes;
    }

    public int drop() {
        int held = now.holder;
        now.holder = NONE;
        return held;
    }

    public int pass(int n) {
        if (n < 1 || n > 999) {
            return OUTSIDE;
        }
        if (now.minutes > LAST_MINUTE) {
            return FULL;
        }
        now.minutes += n;
        return now.minutes;
    }

    public int drift(int n) {
        if (n < 1 || n > 30) {
            return OUTSIDE;
        }
        if (current.people == 0) {
            return NOT;
        }
        if (now.minutes > LAST_MINUTE) {
            return FULL;
        }
        for (int k = 0; k < n; k++) {
            driftOnce();
        }
        return now.minutes;
    }

    // ---- rounds

    public int round(int i) {
        bestRound.find(current, deedsThatAre(OPEN), now.square, now.minutes);
        if (i == NONE) {
            return bestRound.worth;
        }
        if (i == -2) {
            return bestRound.end;
        }
        return i >= 0 && i < bestRound.length ? bestRound.best[i] : NONE;
    }

    public int two(int a) {
        if (!current.isSquare(a)) {
            return UNKNOWN;
        }
        int open = deedsThatAre(OPEN);
        ownSets.find(current, open, now.square, now.minutes);
        otherSets.find(current, open, a, now.minutes);
        int most = 0;
        for (int set = 0; set <= open; set++) {
            if (ownSets.can[set]) {
                most = Math.max(most, current.worthOf(set) + mostBeside(set, open));
            }
        }
        return most;
    }

    public int reword(int what) {
        if (what < 0 || what > 1) {
            return OUTSIDE;
        }
        int open = deedsThatAre(OPEN);
        ownSets.find(current, open, now.square, now.minutes);
        int least = NONE;
        int leastCost = NONE;
        for (int set = 0; set <= open; set++) {
            int cost = (set & ~open) == 0 && ownSets.can[open & ~set] ? current.costOf(set) : NONE;
            if (cost != NONE && (leastCost == NONE || cost < leastCost)) {
                least = set;
                leastCost = cost;
            }
        }
        return what == 0 ? least : leastCost;
    }

    // ---- trust, minutes, thieves

    public int chain(int a, int b, int what) {
        if (!current.areTwoPeople(a, b)) {
            return UNKNOWN;
        }
        if (what < 0 || what > 1) {
            return OUTSIDE;
        }
        chains.find(current, a);
        return what == 0 ? chains.bestOdds[b] : chains.fewest[b];
    }

    public int lost(int a) {
        if (!current.isPerson(a)) {
            return UNKNOWN;
        }
        chains.find(current, a);
        int set = 0;
        for (int b = 0; b < current.people; b++) {
            if (chains.bestOdds[b] <= 0) {
                set |= 1 << b;
            }
        }
        return set;
    }

    public int sold(int n, int p, int what) {
        if (!current.isPerson(p)) {
            return UNKNOWN;
        }
        if (n < 1 || n > 9 || what < 0 || what > 1) {
            return OUTSIDE;
        }
        Arrays.fill(tally, 0);
        Arrays.fill(paid, 0);
        for (int k = 0; k < n; k++) {
            sellMinute();
        }
        return what == 0 ? tally[p] : paid[p];
    }

    public int thief(int a, int b, int g, int what) {
        if (!current.isSquare(a) || !current.isSquare(b) || !current.isSquare(g)) {
            return UNKNOWN;
        }
        if (what < 0 || what > 1) {
            return OUTSIDE;
        }
        chase.solve(current, g);
        int start = Chase.place(a, b, Chase.THIEF);
        if (what == 0) {
            return chase.ending[start];
        }
        // Two moves make one turn, and the turn that a move ends in counts whole.
        return chase.ending[start] == Chase.NEITHER ? NONE : (chase.moves[start] + 1) / 2;
    }

    // ---- other words

    public int vote(int o) {
        if (o != NONE && !current.isWord(o)) {
            return UNKNOWN;
        }
        Arrays.fill(tally, 0);
        int open = deedsThatAre(OPEN);
        for (int p = 0; p < current.people; p++) {
            int his = open & current.deedsOf(p);
            int choice = wordForMost(his);
            if (choice != NONE && current.worthOf(his & current.allowed[choice]) > 0) {
                tally[choice]++;
            }
        }
        return o == NONE ? mostVoted() : tally[o];
    }

    public int bestWord() {
        return wordForMost(deedsThatAre(OPEN));
    }

    // ---- what was told

    public int tell(int i, int m) {
        if (!current.isDeed(i)) {
            return UNKNOWN;
        }
        if (m < 1 || m > 999) {
            return OUTSIDE;
        }
        return fitting.add(i, m) ? fitting.told : FULL;
    }

    public int days() {
        fitting.find(current, 0);
        return fitting.count;
    }

    public int where(int t) {
        if (t < 0 || t > 999) {
            return OUTSIDE;
        }
        fitting.find(current, t);
        return fitting.squares;
    }

    public int write(int i, int m) {
        if (!current.isDeed(i)) {
            return UNKNOWN;
        }
        if (m < 0 || m > 99999) {
            return OUTSIDE;
        }
        return diary.add(i, m) ? diary.entries : FULL;
    }

    public int judge() {
        return diary.firstWrong(now);
    }

    public int tear() {
        int both = fitting.told + diary.entries;
        fitting.told = 0;
        diary.entries = 0;
        return both;
    }

    // ---- draws, images

    public int seed(int v) {
        if (v < 0) {
            return OUTSIDE;
        }
        int old = now.seed;
        now.seed = v;
        return old;
    }

    public int keep(int i) {
        if (i < 0 || i > 1) {
            return UNKNOWN;
        }
        State image = i == 0 ? firstImage : secondImage;
        image.become(now);
        image.kept = true;
        return 1;
    }

    public int goBack(int i) {
        if (i < 0 || i > 1) {
            return UNKNOWN;
        }
        State image = i == 0 ? firstImage : secondImage;
        if (!image.kept) {
            return NOT;
        }
        now.become(image);
        return 1;
    }

    // ---- what the calls share

    private int deedsThatAre(int stand) {
        int set = 0;
        for (int i = 0; i < current.deeds; i++) {
            if (now.standOf(current, i) == stand) {
                set |= 1 << i;
            }
        }
        return set;
    }

    private void driftOnce() {
        int p = now.draw(current.people);
        if (now.reaches(current, p)) {
            now.hand(current, p);
        }
        int i = firstOpenOf(p);
        if (i != NONE && now.holder == p) {
            now.finish(current, i);
        } else {
            now.minutes++;
        }
    }

    private int firstOpenOf(int p) {
        for (int i = 0; i < current.deeds; i++) {
            if (current.doer[i] == p && now.standOf(current, i) == OPEN) {
                return i;
            }
        }
        return NONE;
    }

    private int mostBeside(int taken, int open) {
        int most = 0;
        for (int set = 0; set <= open; set++) {
            if ((set & taken) == 0 && otherSets.can[set]) {
                most = Math.max(most, current.worthOf(set));
            }
        }
        return most;
    }

    private void sellMinute() {
        int buyer = highestBidder(NONE);
        if (buyer == NONE) {
            return;
        }
        int second = highestBidder(buyer);
        paid[buyer] += second == NONE ? 0 : bidOf(second);
        tally[buyer]++;
    }

    private int bidOf(int p) {
        return Math.max(0, current.bid[p] - tally[p]);
    }

    private int highestBidder(int but) {
        int highest = NONE;
        for (int p = 0; p < current.people; p++) {
            if (p != but && (highest == NONE || bidOf(p) > bidOf(highest))) {
                highest = p;
            }
        }
        return highest;
    }

    private int wordForMost(int set) {
        int best = NONE;
        int most = NONE;
        for (int o = 0; o < current.words; o++) {
            int worth = current.worthOf(set & current.allowed[o]);
            if (worth > most) {
                best = o;
                most = worth;
            }
        }
        return best;
    }

    private int mostVoted() {
        int best = NONE;
        int most = 0;
        for (int o = 0; o < current.words; o++) {
            if (tally[o] > most) {
                best = o;
                most = tally[o];
            }
        }
        return best;
    }

    /** What the text told, and how far its squares are apart. */
    private static final class Town {
        int squares;
        int start = NONE;
        int people;
        int deeds;
        int words;
        final int[][] way = new int[MOST_SQUARES][MOST_SQUARES];
        final int[][] apart = new int[MOST_SQUARES][MOST_SQUARES];
        final int[] home = new int[MOST_PEOPLE];
        final int[] bid = new int[MOST_PEOPLE];
        final int[] doer = new int[MOST_DEEDS];
        final int[] lasts = new int[MOST_DEEDS];
        final int[] due = new int[MOST_DEEDS];
        final int[] worth = new int[MOST_DEEDS];
        final int[] price = new int[MOST_DEEDS];
        final int[][] odds = new int[MOST_PEOPLE][MOST_PEOPLE];
        final int[] allowed = new int[MOST_WORDS];

        Town() {
            clear();
        }

        void clear() {
            squares = 0;
            start = NONE;
            people = 0;
            deeds = 0;
            words = 0;
            for (int a = 0; a < MOST_SQUARES; a++) {
                Arrays.fill(way[a], NONE);
            }
            for (int a = 0; a < MOST_PEOPLE; a++) {
                Arrays.fill(odds[a], NONE);
            }
            Arrays.fill(price, NONE);
        }

        boolean isSquare(int a) {
            return a >= 0 && a < squares;
        }

        boolean isPerson(int p) {
            return p >= 0 && p < people;
        }

        /** One person named twice is refused like one that there is not. */
        boolean areTwoPeople(int a, int b) {
            return isPerson(a) && isPerson(b) && a != b;
        }

        boolean isDeed(int i) {
            return i >= 0 && i < deeds;
        }

        boolean isWord(int o) {
            return o >= 0 && o < words;
        }

        void measure() {
            for (int a = 0; a < squares; a++) {
                for (int b = 0; b < squares; b++) {
                    apart[a][b] = a == b ? 0 : way[a][b];
                }
            }
            for (int over = 0; over < squares; over++) {
                for (int a = 0; a < squares; a++) {
                    for (int b = 0; b < squares; b++) {
                        shorten(a, over, b);
                    }
                }
            }
        }

        private void shorten(int a, int over, int b) {
            if (apart[a][over] == NONE || apart[over][b] == NONE) {
                return;
            }
            int round = apart[a][over] + apart[over][b];
            if (apart[a][b] == NONE || round < apart[a][b]) {
                apart[a][b] = round;
            }
        }

        int between(int a, int b) {
            return isSquare(a) && isSquare(b) ? apart[a][b] : NONE;
        }

        int squareOf(int i) {
            return isDeed(i) && isPerson(doer[i]) ? home[doer[i]] : NONE;
        }

        int worthOf(int set) {
            int sum = 0;
            for (int i = 0; i < deeds; i++) {
                if ((set >> i & 1) != 0) {
                    sum += worth[i];
                }
            }
            return sum;
        }

        /** NONE: one of them cannot be reworded. */
        int costOf(int set) {
            int sum = 0;
            for (int i = 0; i < deeds; i++) {
                if ((set >> i & 1) != 0) {
                    if (price[i] == NONE) {
                        return NONE;
                    }
                    sum += price[i];
                }
            }
            return sum;
        }

        int deedsOf(int p) {
            int set = 0;
            for (int i = 0; i < deeds; i++) {
                if (doer[i] == p) {
                    set |= 1 << i;
                }
            }
            return set;
        }

        /** The minute behind which a deed is done, if the word is walked to it at once; NONE: it cannot be in time. */
        int endOf(int i, int square, int minute) {
            int walk = between(square, squareOf(i));
            if (walk == NONE || !isDeed(i)) {
                return NONE;
            }
            int end = minute + walk + lasts[i];
            return end > due[i] ? NONE : end;
        }
    }

    /** Reads a text into a town, up to its first fault. */
    private static final class Reader {
        private static final String CLAUSES = "twpdrqo";
        private static final int TOWN = 0, WAY = 1, PERSON = 2, DEED = 3, REWORD = 4, TRUST = 5, OTHER = 6;
        private static final int[] NUMBERS = {2, 3, 2, 4, 2, 3, 1};
        // No count of its own bounds 'r': each deed has it once.
        private static final int[] MOST = {1, 10, 6, 6, MOST_LETTERS, 12, 4};
        private static final int[] DEED_BOUNDS = {0, 30, 999, 99};

        int letters;
        /** Where it reads; with a fault, the letter that has it. */
        int at;
        private int fault;
        private final char[] text = new char[MOST_LETTERS];
        private final int[] count = new int[7];
        private final int[] number = new int[4];

        boolean add(char letter) {
            if (letters >= MOST_LETTERS) {
                return false;
            }
            text[letters] = letter;
            letters++;
            return true;
        }

        /** The number of the first fault; 0: it has none. */
        int read(Town town) {
            at = 0;
            fault = 0;
            Arrays.fill(count, 0);
            town.clear();
            skipBlanks();
            for (int k = 0; k < MOST_LETTERS && at < letters && fault == 0; k++) {
                readClause(town);
            }
            return fault;
        }

        private void skipBlanks() {
            while (at < letters && text[at] == ' ') {
                at++;
            }
        }

        private void readClause(Town town) {
            int clause = CLAUSES.indexOf(text[at]);
            if (clause < 0 || (clause != TOWN && count[TOWN] == 0)) {
                fault = 1;
                return;
            }
            if (count[clause] >= MOST[clause]) {
                fault = 3;
                return;
            }
            count[clause]++;
            at++;
            for (int k = 0; k < NUMBERS[clause] && fault == 0; k++) {
                readNumber(town, clause, k);
            }
            if (fault == 0) {
                readEnd(town, clause);
            }
        }

        private void readEnd(Town town, int clause) {
            skipBlanks();
            if (at >= letters || text[at] != ';') {
                fault = 1;
                return;
            }
            at++;
            take(town, clause);
            skipBlanks();
        }

        private static boolean isFigure(char letter) {
            return letter >= '0' && letter <= '9';
        }

        private void readNumber(Town town, int clause, int k) {
            skipBlanks();
            int first = at;
            int value = 0;
            while (at < letters && isFigure(text[at])) {
                // Beyond three figures it is a fault anyway, and must not run over.
                value = at - first < 3 ? value * 10 + (text[at] - '0') : value;
                at++;
            }
            int figures = at - first;
            if (figures == 0) {
                fault = 1;
            } else if (figures > 3 || value < lowest(clause, k) || value > highest(town, clause, k)) {
                fault = 2;
            } else if (again(town, clause, k, value)) {
                fault = 4;
            }
            number[k] = value;
            at = fault == 0 ? at : first;
        }

        private static int lowest(int clause, int k) {
            switch (clause) {
                case TOWN: return k == 0 ? 1 : 0;
                case WAY: return k == 2 ? 1 : 0;
                case DEED: return k == 1 || k == 2 ? 1 : 0;
                case OTHER: return 1;
                default: return 0;
            }
        }

        private int highest(Town town, int clause, int k) {
            switch (clause) {
                case TOWN: return k == 0 ? MOST_SQUARES : number[0] - 1;
                case WAY: return k < 2 ? town.squares - 1 : 30;
                case PERSON: return k == 0 ? town.squares - 1 : 99;
                case DEED: return k == 0 ? town.people - 1 : DEED_BOUNDS[k];
                case REWORD: return k == 0 ? town.deeds - 1 : 99;
                case TRUST: return k < 2 ? town.people - 1 : 10;
                default: return (1 << town.deeds) - 1;
            }
        }

        private boolean again(Town town, int clause, int k, int value) {
            if (clause == REWORD && k == 0) {
                return town.price[value] != NONE;
            }
            if (k != 1) {
                return false;
            }
            if (clause == WAY) {
                return value == number[0] || town.way[number[0]][value] != NONE;
            }
            return clause == TRUST && (value == number[0] || town.odds[number[0]][value] != NONE);
        }

        private void take(Town town, int clause) {
            switch (clause) {
                case TOWN:
                    town.squares = number[0];
                    town.start = number[1];
                    break;
                case WAY:
                    town.way[number[0]][number[1]] = number[2];
                    town.way[number[1]][number[0]] = number[2];
                    break;
                case PERSON:
                    town.home[town.people] = number[0];
                    town.bid[town.people] = number[1];
                    town.people++;
                    break;
                case DEED:
                    takeDeed(town);
                    break;
                case REWORD:
                    town.price[number[0]] = number[1];
                    break;
                case TRUST:
                    town.odds[number[0]][number[1]] = number[2];
                    break;
                default:
                    town.allowed[town.words] = number[0];
                    town.words++;
                    break;
            }
        }

        private void takeDeed(Town town) {
            int i = town.deeds;
            town.doer[i] = number[0];
            town.lasts[i] = number[1];
            town.due[i] = number[2];
            town.worth[i] = number[3];
            town.deeds++;
        }
    }

    /** How it stands: minutes, the word, deeds, the seed; an image is one, too. */
    private static final class State {
        int minutes;
        int square = NONE;
        int holder = NONE;
        int seed;
        boolean kept;
        final int[] doneAt = new int[MOST_DEEDS];

        State() {
            Arrays.fill(doneAt, NONE);
        }

        void beginIn(Town town) {
            minutes = 0;
            square = town.start;
            holder = NONE;
            Arrays.fill(doneAt, NONE);
        }

        void become(State other) {
            minutes = other.minutes;
            square = other.square;
            holder = other.holder;
            seed = other.seed;
            System.arraycopy(other.doneAt, 0, doneAt, 0, MOST_DEEDS);
        }

        int standOf(Town town, int i) {
            if (doneAt[i] != NONE) {
                return DONE;
            }
            return minutes > town.due[i] - town.lasts[i] ? LAPSED : OPEN;
        }

        boolean reaches(Town town, int p) {
            return town.between(square, town.home[p]) != NONE;
        }

        void hand(Town town, int p) {
            minutes += town.between(square, town.home[p]);
            square = town.home[p];
            holder = p;
        }

        void finish(Town town, int i) {
            minutes += town.lasts[i];
            doneAt[i] = minutes;
        }

        int draw(int n) {
            seed = (int) ((seed * 1103515245L + 12345L) & 2147483647L);
            return n > 0 ? seed / 65536 % n : 0;
        }
    }

    private static final class Diary {
        int entries;
        private final int[] deed = new int[MOST_ENTRIES];
        private final int[] minute = new int[MOST_ENTRIES];

        boolean add(int i, int m) {
            if (entries >= MOST_ENTRIES) {
                return false;
            }
            deed[entries] = i;
            minute[entries] = m;
            entries++;
            return true;
        }

        int firstWrong(State state) {
            for (int k = 0; k < entries; k++) {
                if (state.doneAt[deed[k]] != minute[k]) {
                    return k;
                }
            }
            return NONE;
        }
    }

    /** Walks through all rounds, a round ahead of those that go on from it, the lesser deed first. */
    private abstract static class Rounds {
        final int[] row = new int[MOST_DEEDS];
        /** By deed: the minute behind which the row does it; NONE: it does not. */
        final int[] endAt = new int[MOST_DEEDS];

        abstract void meet(Town town, int size, int minute);

        final void tryAll(Town town, int deeds, int square, int minute) {
            Arrays.fill(endAt, NONE);
            goOn(this, town, deeds, square, minute, 0);
        }

        private static void goOn(Rounds rounds, Town town, int left, int square, int minute, int size) {
            rounds.meet(town, size, minute);
            if (size >= MOST_DEEDS) {
                return;
            }
            for (int i = 0; i < town.deeds; i++) {
                int end = (left >> i & 1) == 0 ? NONE : town.endOf(i, square, minute);
                if (end != NONE) {
                    rounds.row[size] = i;
                    rounds.endAt[i] = end;
                    goOn(rounds, town, left & ~(1 << i), town.squareOf(i), end, size + 1);
                    rounds.endAt[i] = NONE;
                }
            }
        }

        final int setOfRow(int size) {
            int set = 0;
            for (int k = 0; k < size; k++) {
                set |= 1 << row[k];
            }
            return set;
        }
    }

    private static final class BestRound extends Rounds {
        int worth;
        int end;
        int length;
        final int[] best = new int[MOST_DEEDS];

        void find(Town town, int deeds, int square, int minute) {
            worth = NONE;
            tryAll(town, deeds, square, minute);
        }

        void meet(Town town, int size, int minute) {
            int sum = town.worthOf(setOfRow(size));
            // Rows come in their order, so that of like ones the first stays.
            if (sum > worth || (sum == worth && minute < end)) {
                worth = sum;
                end = minute;
                length = size;
                System.arraycopy(row, 0, best, 0, size);
            }
        }
    }

    /** Which sets of deeds a round can do. */
    private static final class DoneSets extends Rounds {
        final boolean[] can = new boolean[1 << MOST_DEEDS];

        void find(Town town, int deeds, int square, int minute) {
            for (int set = 0; set < can.length; set++) {
                can[set] = false;
            }
            tryAll(town, deeds, square, minute);
        }

        void meet(Town town, int size, int minute) {
            can[setOfRow(size)] = true;
        }
    }

    /** What was told of days; the rounds from the first minute on that fit it, and where the word was by them. */
    private static final class Days extends Rounds {
        int told;
        int count;
        int squares;
        private int asked;
        private final int[] toldDeed = new int[MOST_TOLD];
        private final int[] toldEnd = new int[MOST_TOLD];

        boolean add(int i, int m) {
            if (told >= MOST_TOLD) {
                return false;
            }
            toldDeed[told] = i;
            toldEnd[told] = m;
            told++;
            return true;
        }

        void find(Town town, int minute) {
            count = 0;
            squares = 0;
            asked = minute;
            if (town.squares > 0) {
                tryAll(town, (1 << town.deeds) - 1, town.start, 0);
            }
        }

        void meet(Town town, int size, int minute) {
            if (agrees()) {
                count++;
                squares |= 1 << placeOf(town, size);
            }
        }

        private boolean agrees() {
            for (int k = 0; k < told; k++) {
                if (endAt[toldDeed[k]] != toldEnd[k]) {
                    return false;
                }
            }
            return true;
        }

        private int placeOf(Town town, int size) {
            int place = town.start;
            int begun = 0;
            for (int k = 0; k < size && begun <= asked; k++) {
                place = town.squareOf(row[k]);
                begun = endAt[row[k]];
            }
            return place;
        }
    }

    /** The best chains from one person to each. */
    private static final class Chains {
        final int[] bestOdds = new int[MOST_PEOPLE];
        final int[] fewest = new int[MOST_PEOPLE];

        void find(Town town, int from) {
            Arrays.fill(bestOdds, NONE);
            Arrays.fill(fewest, NONE);
            lendOn(this, town, from, BILLION, 0, 1);
        }

        private static void lendOn(Chains chains, Town town, int to, int odds, int before, int size) {
            chains.compare(to, odds, size);
            if (size >= MOST_PEOPLE) {
                return;
            }
            int met = before | 1 << to;
            for (int next = 0; next < town.people; next++) {
                if ((met >> next & 1) == 0 && town.odds[to][next] != NONE) {
                    int further = (int) ((long) odds * town.odds[to][next] / 10);
                    lendOn(chains, town, next, further, met, size + 1);
                }
            }
        }

        private void compare(int to, int odds, int size) {
            if (odds > bestOdds[to] || (odds == bestOdds[to] && size < fewest[to])) {
                bestOdds[to] = odds;
                fewest[to] = size;
            }
        }
    }

    /** The chase, solved from its ends: at each level what is decided by that many moves. */
    private static final class Chase {
        static final int THIEF = 0, WATCHMAN = 1;
        static final int NEITHER = 0, ESCAPED = 1, CAUGHT = 2;
        private static final int PLACES = MOST_SQUARES * MOST_SQUARES * 2;

        final int[] ending = new int[PLACES];
        final int[] moves = new int[PLACES];

        static int place(int thief, int watchman, int mover) {
            return (thief * MOST_SQUARES + watchman) * 2 + mover;
        }

        void solve(Town town, int goal) {
            Arrays.fill(ending, NEITHER);
            Arrays.fill(moves, 0);
            for (int t = 0; t < town.squares; t++) {
                for (int w = 0; w < town.squares; w++) {
                    int end = t == w ? CAUGHT : t == goal ? ESCAPED : NEITHER;
                    ending[place(t, w, THIEF)] = end;
                    ending[place(t, w, WATCHMAN)] = end;
                }
            }
            boolean more = true;
            for (int level = 1; level <= PLACES && more; level++) {
                more = decideAt(town, level);
            }
        }

        private boolean decideAt(Town town, int level) {
            boolean any = false;
            for (int t = 0; t < town.squares; t++) {
                for (int w = 0; w < town.squares; w++) {
                    any |= decide(town, t, w, THIEF, level);
                    any |= decide(town, t, w, WATCHMAN, level);
                }
            }
            return any;
        }

        private boolean decide(Town town, int t, int w, int mover, int level) {
            int here = place(t, w, mover);
            if (ending[here] != NEITHER) {
                return false;
            }
            int wanted = mover == THIEF ? ESCAPED : CAUGHT;
            int from = mover == THIEF ? t : w;
            boolean allBad = true;
            boolean oneGood = false;
            for (int to = 0; to < town.squares; to++) {
                if (to == from || town.way[from][to] != NONE) {
                    int next = mover == THIEF ? place(to, w, WATCHMAN) : place(t, to, THIEF);
                    int end = moves[next] < level ? ending[next] : NEITHER;
                    oneGood |= end == wanted;
                    allBad &= end != NEITHER && end != wanted;
                }
            }
            if (!oneGood && !allBad) {
                return false;
            }
            ending[here] = oneGood ? wanted : ESCAPED + CAUGHT - wanted;
            moves[here] = level;
            return true;
        }
    }
}
