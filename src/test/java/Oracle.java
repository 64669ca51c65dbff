import java.util.ArrayList;
import java.util.Arrays;
import java.util.HashMap;
import java.util.List;
import java.util.Map;
import java.util.TreeSet;

/** The document written down a second time, by lists and plain search, to compare the class with. */
final class Oracle {
    static final int NONE = -1, UNKNOWN = -1000000001, OUTSIDE = -1000000002, NOT = -1000000003, FULL = -1000000004;

    private static final class Fault extends RuntimeException {
        private static final long serialVersionUID = 1L;
        final int number;
        final int at;

        Fault(int number, int at) {
            this.number = number;
            this.at = at;
        }
    }

    private static final class Deed {
        int person, m, d, v, c = NONE;
    }

    private static final class Place {
        int squares, start = NONE;
        final Map<List<Integer>, Integer> ways = new HashMap<>();
        final List<int[]> people = new ArrayList<>();
        final List<Deed> deeds = new ArrayList<>();
        final Map<List<Integer>, Integer> trust = new HashMap<>();
        final List<Integer> words = new ArrayList<>();
        int waysTold, townsTold;
    }

    private static final class Now {
        int minutes, square = NONE, holder = NONE;
        long seed;
        final Map<Integer, Integer> done = new HashMap<>();

        Now copy() {
            Now n = new Now();
            n.minutes = minutes;
            n.square = square;
            n.holder = holder;
            n.seed = seed;
            n.done.putAll(done);
            return n;
        }
    }

    private String text = "";
    private int faultAt = NONE;
    private Place place = new Place();
    private Now now = new Now();
    private final Now[] images = new Now[2];
    private final List<int[]> told = new ArrayList<>();
    private final List<int[]> diary = new ArrayList<>();
    // What holds as long as the town does is worked out once, or large towns would take minutes.
    private final Map<List<Integer>, Integer> farKnown = new HashMap<>();
    private final Map<List<Integer>, Boolean> forcedKnown = new HashMap<>();
    private final Map<List<Integer>, Map<List<Integer>, int[]>> roundsKnown = new HashMap<>();

    int feed(int letter) {
        if (letter < 0 || letter > 255) return OUTSIDE;
        if (text.length() == 250) return FULL;
        text += (char) letter;
        return text.length();
    }

    int town() {
        String t = text;
        text = "";
        Place p;
        try {
            p = read(t);
        } catch (Fault f) {
            faultAt = f.at;
            return -10 - f.number;
        }
        faultAt = NONE;
        place = p;
        farKnown.clear();
        forcedKnown.clear();
        roundsKnown.clear();
        long seed = now.seed;
        now = new Now();
        now.seed = seed;
        now.square = p.start;
        told.clear();
        diary.clear();
        images[0] = null;
        images[1] = null;
        return p.deeds.size();
    }

    // A number is a span of figures; all else but blanks stands alone.
    private static Place read(String t) {
        List<String> tokens = new ArrayList<>();
        List<Integer> at = new ArrayList<>();
        for (int k = 0; k < t.length(); ) {
            int end = k + 1;
            if (Character.isDigit(t.charAt(k)) && t.charAt(k) < 128) {
                while (end < t.length() && t.charAt(end) >= '0' && t.charAt(end) <= '9') end++;
            }
            if (t.charAt(k) != ' ') {
                tokens.add(t.substring(k, end));
                at.add(k);
            }
            k = end;
        }
        tokens.add("end");
        at.add(t.length());
        Place p = new Place();
        int k = 0;
        while (k < tokens.size() - 1) {
            String word = tokens.get(k);
            if (word.length() != 1 || "twpdrqo".indexOf(word) < 0) throw new Fault(1, at.get(k));
            if (p.townsTold == 0 && !word.equals("t")) throw new Fault(1, at.get(k));
            if (tooMany(p, word)) throw new Fault(3, at.get(k));
            int wanted = word.equals("d") ? 4 : "wq".contains(word) ? 3 : word.equals("o") ? 1 : 2;
            List<Integer> numbers = new ArrayList<>();
            for (int n = 0; n < wanted; n++) {
                String s = tokens.get(k + 1 + n);
                int where = at.get(k + 1 + n);
                if (!s.matches("[0-9]+")) throw new Fault(1, where);
                if (s.length() > 3) throw new Fault(2, where);
                numbers.add(Integer.parseInt(s));
                check(p, word, numbers, where);
            }
            k += 1 + wanted;
            if (!tokens.get(k).equals(";")) throw new Fault(1, at.get(k));
            k++;
            put(p, word, numbers);
        }
        return p;
    }

    private static boolean tooMany(Place p, String word) {
        switch (word) {
            case "t": return p.townsTold == 1;
            case "w": return p.waysTold == 10;
            case "p": return p.people.size() == 6;
            case "d": return p.deeds.size() == 6;
            case "q": return p.trust.size() == 12;
            case "o": return p.words.size() == 4;
            default: return false;
        }
    }

    private static void bound(int v, int low, int high, int where) {
        if (v < low || v > high) throw new Fault(2, where);
    }

    private static void check(Place p, String word, List<Integer> n, int where) {
        int v = n.get(n.size() - 1);
        String spot = word + n.size();
        switch (spot) {
            case "t1": bound(v, 1, 7, where); break;
            case "t2": bound(v, 0, n.get(0) - 1, where); break;
            case "w1": case "w2": case "p1": bound(v, 0, p.squares - 1, where); break;
            case "w3": case "d2": bound(v, 1, 30, where); break;
            case "p2": case "d4": case "r2": bound(v, 0, 99, where); break;
            case "d1": case "q1": case "q2": bound(v, 0, p.people.size() - 1, where); break;
            case "d3": bound(v, 1, 999, where); break;
            case "r1": bound(v, 0, p.deeds.size() - 1, where); break;
            case "q3": bound(v, 0, 10, where); break;
            default:
                bound(v, 1, 63, where);
                for (int b = 0; b < 6; b++) if ((v >> b) % 2 == 1 && b >= p.deeds.size()) throw new Fault(2, where);
        }
        if (spot.equals("w2") && (v == n.get(0) || p.ways.containsKey(List.of(n.get(0), v)))) throw new Fault(4, where);
        if (spot.equals("q2") && (v == n.get(0) || p.trust.containsKey(List.of(n.get(0), v)))) throw new Fault(4, where);
        if (spot.equals("r1") && p.deeds.get(v).c != NONE) throw new Fault(4, where);
    }

    private static void put(Place p, String word, List<Integer> n) {
        switch (word) {
            case "t": p.townsTold++; p.squares = n.get(0); p.start = n.get(1); break;
            case "w":
                p.waysTold++;
                p.ways.put(List.of(n.get(0), n.get(1)), n.get(2));
                p.ways.put(List.of(n.get(1), n.get(0)), n.get(2));
                break;
            case "p": p.people.add(new int[] {n.get(0), n.get(1)}); break;
            case "d": {
                Deed d = new Deed();
                d.person = n.get(0);
                d.m = n.get(1);
                d.d = n.get(2);
                d.v = n.get(3);
                p.deeds.add(d);
                break;
            }
            case "r": p.deeds.get(n.get(0)).c = n.get(1); break;
            case "q": p.trust.put(List.of(n.get(0), n.get(1)), n.get(2)); break;
            default: p.words.add(n.get(0));
        }
    }

    int fault() {
        return faultAt;
    }

    private boolean noSquare(int a) {
        return a < 0 || a >= place.squares;
    }

    private boolean noPerson(int a) {
        return a < 0 || a >= place.people.size();
    }

    private boolean noDeed(int a) {
        return a < 0 || a >= place.deeds.size();
    }

    private int stand(int i) {
        if (now.done.containsKey(i)) return 1;
        Deed d = place.deeds.get(i);
        return now.minutes > d.d - d.m ? 2 : 0;
    }

    private List<Integer> those(int stand) {
        List<Integer> all = new ArrayList<>();
        for (int i = 0; i < place.deeds.size(); i++) if (stand(i) == stand) all.add(i);
        return all;
    }

    private static int set(Iterable<Integer> of) {
        int s = 0;
        for (int i : of) s += 1 << i;
        return s;
    }

    private int worth(Iterable<Integer> of) {
        int s = 0;
        for (int i : of) s += place.deeds.get(i).v;
        return s;
    }

    int told(int what) {
        int[] all = {place.squares, place.people.size(), place.deeds.size(), place.words.size(), text.length(), now.minutes,
            now.square, now.holder, set(those(1)), set(those(2)), worth(those(1)), told.size(), diary.size()};
        return what < 0 || what >= all.length ? OUTSIDE : all[what];
    }

    int far(int a, int b) {
        if (noSquare(a) || noSquare(b)) return UNKNOWN;
        return farKnown.computeIfAbsent(List.of(a, b), two -> walked(a, b));
    }

    // Way by way, as often as there are squares.
    private int walked(int a, int b) {
        Map<Integer, Integer> best = new HashMap<>();
        best.put(a, 0);
        for (int k = 0; k < place.squares; k++) {
            for (Map.Entry<List<Integer>, Integer> w : place.ways.entrySet()) {
                Integer from = best.get(w.getKey().get(0));
                if (from != null) best.merge(w.getKey().get(1), from + w.getValue(), Math::min);
            }
        }
        return best.getOrDefault(b, NONE);
    }

    int person(int p, int what) {
        if (noPerson(p)) return UNKNOWN;
        if (what != 0 && what != 1) return OUTSIDE;
        return place.people.get(p)[what];
    }

    int deed(int i, int what) {
        if (noDeed(i)) return UNKNOWN;
        if (what < 0 || what > 6) return OUTSIDE;
        Deed d = place.deeds.get(i);
        return new int[] {d.person, d.m, d.d, d.v, d.c, stand(i), now.done.getOrDefault(i, NONE)}[what];
    }

    int trust(int a, int b) {
        if (noPerson(a) || noPerson(b) || a == b) return UNKNOWN;
        return place.trust.getOrDefault(List.of(a, b), NONE);
    }

    int lets(int o) {
        return o < 0 || o >= place.words.size() ? UNKNOWN : place.words.get(o);
    }

    int lend(int p) {
        if (noPerson(p)) return UNKNOWN;
        int walk = far(now.square, place.people.get(p)[0]);
        if (walk == NONE) return NOT;
        if (now.minutes > 90000) return FULL;
        now.minutes += walk;
        now.square = place.people.get(p)[0];
        now.holder = p;
        return now.minutes;
    }

    int act(int i) {
        if (noDeed(i)) return UNKNOWN;
        Deed d = place.deeds.get(i);
        if (stand(i) != 0 || now.holder != d.person) return NOT;
        now.minutes += d.m;
        now.done.put(i, now.minutes);
        return now.minutes;
    }

    int drop() {
        int h = now.holder;
        now.holder = NONE;
        return h;
    }

    int pass(int n) {
        if (n < 1 || n > 999) return OUTSIDE;
        if (now.minutes > 90000) return FULL;
        return now.minutes += n;
    }

    int drift(int n) {
        if (n < 1 || n > 30) return OUTSIDE;
        if (place.people.isEmpty()) return NOT;
        if (now.minutes > 90000) return FULL;
        for (int k = 0; k < n; k++) {
            now.seed = (now.seed * 1103515245L + 12345L) % (1L << 31);
            int p = (int) (now.seed / 65536 % place.people.size());
            int before = now.minutes;
            now.minutes = Math.min(now.minutes, 90000);
            int walked = lend(p);
            now.minutes = walked == NOT ? before : before + (walked - Math.min(before, 90000));
            boolean did = false;
            for (int i = 0; i < place.deeds.size() && !did; i++) {
                if (place.deeds.get(i).person == p && stand(i) == 0) did = act(i) != NOT;
            }
            if (!did) now.minutes++;
        }
        return now.minutes;
    }

    /** Ends of each deed of a row, or null if it is no round. */
    private int[] walk(List<Integer> row, int square, int minute) {
        int[] ends = new int[row.size()];
        for (int k = 0; k < row.size(); k++) {
            Deed d = place.deeds.get(row.get(k));
            int to = place.people.get(d.person)[0];
            int f = far(square, to);
            if (f == NONE) return null;
            minute += f + d.m;
            if (minute > d.d) return null;
            square = to;
            ends[k] = minute;
        }
        return ends;
    }

    private static List<List<Integer>> rows(List<Integer> of) {
        List<List<Integer>> all = new ArrayList<>();
        all.add(List.of());
        for (int i : of) {
            List<Integer> rest = new ArrayList<>(of);
            rest.remove((Integer) i);
            for (List<Integer> tail : rows(rest)) {
                List<Integer> row = new ArrayList<>(List.of(i));
                row.addAll(tail);
                all.add(row);
            }
        }
        return all;
    }

    private Map<List<Integer>, int[]> rounds(List<Integer> of, int square, int minute) {
        List<Integer> key = new ArrayList<>(of);
        key.add(square);
        key.add(minute);
        return roundsKnown.computeIfAbsent(key, all -> walkAll(of, square, minute));
    }

    private Map<List<Integer>, int[]> walkAll(List<Integer> of, int square, int minute) {
        Map<List<Integer>, int[]> all = new HashMap<>();
        for (List<Integer> row : rows(of)) {
            int[] ends = walk(row, square, minute);
            if (ends != null) all.put(row, ends);
        }
        return all;
    }

    private static int compareRows(List<Integer> a, List<Integer> b) {
        for (int k = 0; k < a.size() && k < b.size(); k++) {
            if (!a.get(k).equals(b.get(k))) return a.get(k) - b.get(k);
        }
        return a.size() - b.size();
    }

    int round(int i) {
        Map<List<Integer>, int[]> all = rounds(those(0), now.square, now.minutes);
        List<List<Integer>> sorted = new ArrayList<>(all.keySet());
        sorted.sort((a, b) -> {
            if (worth(a) != worth(b)) return worth(b) - worth(a);
            int ea = endOf(all.get(a)), eb = endOf(all.get(b));
            return ea != eb ? ea - eb : compareRows(a, b);
        });
        List<Integer> best = sorted.get(0);
        if (i == NONE) return worth(best);
        if (i == -2) return endOf(all.get(best));
        return i >= 0 && i < best.size() ? best.get(i) : NONE;
    }

    private int endOf(int[] ends) {
        return ends.length == 0 ? now.minutes : ends[ends.length - 1];
    }

    private TreeSet<Integer> sets(int square) {
        TreeSet<Integer> sets = new TreeSet<>();
        for (List<Integer> row : rounds(those(0), square, now.minutes).keySet()) sets.add(set(row));
        return sets;
    }

    private List<Integer> members(int set) {
        List<Integer> m = new ArrayList<>();
        for (int i = 0; i < 6; i++) if ((set & 1 << i) != 0) m.add(i);
        return m;
    }

    int two(int a) {
        if (noSquare(a)) return UNKNOWN;
        int most = 0;
        TreeSet<Integer> other = sets(a);
        for (int s : sets(now.square)) {
            for (int o : other) if ((s & o) == 0) most = Math.max(most, worth(members(s)) + worth(members(o)));
        }
        return most;
    }

    int reword(int what) {
        if (what != 0 && what != 1) return OUTSIDE;
        int open = set(those(0));
        int best = NONE, cost = Integer.MAX_VALUE;
        for (int s : sets(now.square)) {
            int left = open - s, c = 0;
            for (int i : members(left)) c += place.deeds.get(i).c == NONE ? 1000000 : place.deeds.get(i).c;
            if (c < 1000000 && (c < cost || c == cost && left < best)) {
                best = left;
                cost = c;
            }
        }
        return best == NONE ? NONE : what == 0 ? best : cost;
    }

    private int[] bestChain(int a, int b) {
        List<Integer> others = new ArrayList<>();
        for (int p = 0; p < place.people.size(); p++) if (p != a && p != b) others.add(p);
        int[] best = {NONE, NONE};
        for (List<Integer> between : a == b ? List.of(List.<Integer>of()) : rows(others)) {
            List<Integer> row = new ArrayList<>(List.of(a));
            row.addAll(between);
            if (a != b) row.add(b);
            long odds = 1000000000L;
            for (int k = 1; k < row.size() && odds >= 0; k++) {
                Integer q = place.trust.get(List.of(row.get(k - 1), row.get(k)));
                odds = q == null ? -1 : odds * q / 10;
            }
            if (odds > best[0] || odds >= 0 && odds == best[0] && row.size() < best[1]) {
                best = new int[] {(int) odds, row.size()};
            }
        }
        return best;
    }

    int chain(int a, int b, int what) {
        if (noPerson(a) || noPerson(b) || a == b) return UNKNOWN;
        if (what != 0 && what != 1) return OUTSIDE;
        return bestChain(a, b)[what];
    }

    int lost(int a) {
        if (noPerson(a)) return UNKNOWN;
        int s = 0;
        for (int b = 0; b < place.people.size(); b++) if (b != a && bestChain(a, b)[0] <= 0) s |= 1 << b;
        return s;
    }

    int sold(int n, int p, int what) {
        if (noPerson(p)) return UNKNOWN;
        if (n < 1 || n > 9 || what < 0 || what > 1) return OUTSIDE;
        int[][] got = new int[place.people.size()][2];
        for (int k = 0; k < n; k++) {
            List<Integer> order = new ArrayList<>();
            for (int q = 0; q < got.length; q++) order.add(q);
            order.sort((x, y) -> bid(y, got) - bid(x, got));
            int first = order.get(0);
            int price = order.size() > 1 ? bid(order.get(1), got) : 0;
            got[first][0]++;
            got[first][1] += price;
        }
        return got[p][what];
    }

    private int bid(int p, int[][] got) {
        return Math.max(0, place.people.get(p)[1] - got[p][0]);
    }

    private List<Integer> steps(int from) {
        List<Integer> to = new ArrayList<>(List.of(from));
        for (int s = 0; s < place.squares; s++) if (place.ways.containsKey(List.of(from, s))) to.add(s);
        return to;
    }

    // Whether an end can be forced within so many moves, asked move by move.
    private boolean forced(int end, int t, int w, int g, boolean thiefs, int moves) {
        if (t == w) return end == 2;
        if (t == g) return end == 1;
        if (moves == 0) return false;
        List<Integer> key = List.of(end, t, w, g, thiefs ? 1 : 0, moves);
        Boolean had = forcedKnown.get(key);
        if (had != null) return had;
        boolean wants = thiefs == (end == 1);
        boolean answer = !wants;
        for (int to : steps(thiefs ? t : w)) {
            boolean f = forced(end, thiefs ? to : t, thiefs ? w : to, g, !thiefs, moves - 1);
            if (f == wants) answer = wants;
        }
        forcedKnown.put(key, answer);
        return answer;
    }

    int thief(int a, int b, int g, int what) {
        if (noSquare(a) || noSquare(b) || noSquare(g)) return UNKNOWN;
        if (what != 0 && what != 1) return OUTSIDE;
        for (int end = 1; end <= 2; end++) {
            for (int moves = 0; moves <= 100; moves++) {
                if (forced(end, a, b, g, true, moves)) return what == 0 ? end : moves / 2 + moves % 2;
            }
        }
        return what == 0 ? 0 : NONE;
    }

    int vote(int o) {
        if (o != NONE && (o < 0 || o >= place.words.size())) return UNKNOWN;
        int[] votes = new int[place.words.size()];
        for (int p = 0; p < place.people.size(); p++) {
            int[] v = new int[votes.length];
            for (int w = 0; w < votes.length; w++) {
                for (int i : those(0)) {
                    if (place.deeds.get(i).person == p && (place.words.get(w) & 1 << i) != 0) v[w] += place.deeds.get(i).v;
                }
            }
            int best = first(v);
            if (best != NONE && v[best] > 0) votes[best]++;
        }
        if (o != NONE) return votes[o];
        int best = first(votes);
        return best != NONE && votes[best] > 0 ? best : NONE;
    }

    private static int first(int[] of) {
        if (of.length == 0) return NONE;
        int most = Arrays.stream(of).max().getAsInt();
        for (int k = 0; k < of.length; k++) if (of[k] == most) return k;
        return NONE;
    }

    int bestWord() {
        int[] v = new int[place.words.size()];
        for (int w = 0; w < v.length; w++) {
            for (int i : those(0)) if ((place.words.get(w) & 1 << i) != 0) v[w] += place.deeds.get(i).v;
        }
        return first(v);
    }

    int tell(int i, int m) {
        if (noDeed(i)) return UNKNOWN;
        if (m < 1 || m > 999) return OUTSIDE;
        if (told.size() == 6) return FULL;
        told.add(new int[] {i, m});
        return told.size();
    }

    private Map<List<Integer>, int[]> fitting() {
        Map<List<Integer>, int[]> all = new HashMap<>();
        if (place.squares == 0) return all;
        List<Integer> every = new ArrayList<>();
        for (int i = 0; i < place.deeds.size(); i++) every.add(i);
        for (Map.Entry<List<Integer>, int[]> e : rounds(every, place.start, 0).entrySet()) {
            boolean fits = true;
            for (int[] t : told) {
                int k = e.getKey().indexOf(t[0]);
                fits &= k >= 0 && e.getValue()[k] == t[1];
            }
            if (fits) all.put(e.getKey(), e.getValue());
        }
        return all;
    }

    int days() {
        return fitting().size();
    }

    int where(int t) {
        if (t < 0 || t > 999) return OUTSIDE;
        TreeSet<Integer> squares = new TreeSet<>();
        for (Map.Entry<List<Integer>, int[]> e : fitting().entrySet()) {
            int on = place.start;
            for (int k = e.getKey().size() - 1; k >= 0; k--) {
                int begins = k == 0 ? 0 : e.getValue()[k - 1];
                if (begins <= t) {
                    on = place.people.get(place.deeds.get(e.getKey().get(k)).person)[0];
                    break;
                }
            }
            squares.add(on);
        }
        return set(squares);
    }

    int write(int i, int m) {
        if (noDeed(i)) return UNKNOWN;
        if (m < 0 || m > 99999) return OUTSIDE;
        if (diary.size() == 15) return FULL;
        diary.add(new int[] {i, m});
        return diary.size();
    }

    int judge() {
        for (int k = 0; k < diary.size(); k++) {
            if (!Integer.valueOf(diary.get(k)[1]).equals(now.done.get(diary.get(k)[0]))) return k;
        }
        return NONE;
    }

    int tear() {
        int n = told.size() + diary.size();
        told.clear();
        diary.clear();
        return n;
    }

    int seed(int v) {
        if (v < 0) return OUTSIDE;
        int was = (int) now.seed;
        now.seed = v;
        return was;
    }

    int keep(int i) {
        if (i != 0 && i != 1) return UNKNOWN;
        images[i] = now.copy();
        return 1;
    }

    int goBack(int i) {
        if (i != 0 && i != 1) return UNKNOWN;
        if (images[i] == null) return NOT;
        now = images[i].copy();
        return 1;
    }
}
