import java.math.BigInteger;
import java.util.ArrayDeque;
import java.util.ArrayList;
import java.util.Arrays;
import java.util.Deque;
import java.util.List;
import java.util.Set;
import java.util.TreeMap;
import java.util.TreeSet;
import java.util.regex.Matcher;
import java.util.regex.Pattern;

/**
 * The document once more, as plainly as the Java library allows and by other ways than the class:
 * sets of words, whole ports tried out, games and rooms by looking at all of them.
 */
final class Model {
    private static final int BAD = -1, NO = -2, FULL = -3, NONE = -4;
    private static final String FIRST = "p0,2,6;p1,2,12;p2,2,9;p3,1,5;p4,3,8;n3,2;n9,4;n1,1;n14,3;"
            + "n6,5;c0,1,0;c1,0,3;c2,1,1;c0,2,2;c3,2,4;c4,1,0;c1,3,1;c0,4,1;q6;";
    private static final Pattern ITEM =
            Pattern.compile("(?:p\\d\\d?,\\d\\d?,\\d\\d?|n\\d\\d?,\\d\\d?|c\\d\\d?,\\d\\d?,\\d\\d?|q\\d\\d?);");

    record Person(int kind, int beds, int food) {
    }

    record Name(int unkind, int eats) {
    }

    /** I CALLS J by N, in the order by I, then N for those of one J. */
    record Word(int j, int i, int n) implements Comparable<Word> {
        @Override
        public int compareTo(Word o) {
            return j != o.j ? Integer.compare(j, o.j)
                    : i != o.i ? Integer.compare(i, o.i) : Integer.compare(n, o.n);
        }
    }

    /** What a text tells. */
    static final class Told {
        final List<Person> persons = new ArrayList<>();
        final List<Name> names = new ArrayList<>();
        final Set<Word> words = new TreeSet<>();
        int q = 8;
        int fault = NONE;
    }

    /** How it all stands; for each PERSON his lodgers with how stout they are. */
    static final class State {
        final Set<Word> words = new TreeSet<>();
        final List<TreeMap<Integer, Integer>> lodgers = new ArrayList<>();
        int days;
        int noBeds;

        State copy() {
            State s = new State();
            s.words.addAll(words);
            for (TreeMap<Integer, Integer> map : lodgers) {
                s.lodgers.add(new TreeMap<>(map));
            }
            s.days = days;
            s.noBeds = noBeds;
            return s;
        }

        int lodging() {
            return lodgers.stream().mapToInt(TreeMap::size).sum();
        }
    }

    record Seen(int p, int n, int t, int v) {
    }

    private final StringBuilder text = new StringBuilder();
    private final Deque<State> past = new ArrayDeque<>();
    private final Deque<State> kept = new ArrayDeque<>();
    private final List<Seen> seen = new ArrayList<>();
    private Told told;
    private State now;

    Model() {
        begin(read(FIRST));
    }

    private void begin(Told t) {
        told = t;
        now = new State();
        now.words.addAll(t.words);
        for (int p = 0; p < t.persons.size(); p++) {
            now.lodgers.add(new TreeMap<>());
        }
    }

    private static void flip(Set<Word> words, Word w) {
        if (!words.remove(w)) {
            words.add(w);
        }
    }

    private static Told read(String s) {
        Told t = new Told();
        Matcher m = ITEM.matcher(s);
        int at = 0;
        while (at < s.length()) {
            m.region(at, s.length());
            if (!m.lookingAt() || !tell(t, m.group())) {
                t.fault = at;
                return t;
            }
            at = m.end();
        }
        return t;
    }

    private static boolean tell(Told t, String item) {
        String[] parts = item.substring(1, item.length() - 1).split(",");
        int a = Integer.parseInt(parts[0]);
        int b = parts.length > 1 ? Integer.parseInt(parts[1]) : 0;
        int c = parts.length > 2 ? Integer.parseInt(parts[2]) : 0;
        switch (item.charAt(0)) {
            case 'p':
                t.persons.add(new Person(a, b, c));
                return a <= 4 && b <= 5 && c <= 30 && t.persons.size() <= 6;
            case 'n':
                t.names.add(new Name(a, b));
                return a <= 20 && b <= 9 && t.names.size() <= 8;
            case 'q':
                t.q = a;
                return a >= 1 && a <= 20;
            default:
                flip(t.words, new Word(b, a, c));
                return a != b && a < t.persons.size() && b < t.persons.size()
                        && c < t.names.size() && t.words.size() <= 12;
        }
    }

    // ---- the days

    private int beds(int p) {
        Person who = told.persons.get(p);
        return who.kind == 1 ? who.beds * 2 : who.beds;
    }

    private int eaten(State s, int p) {
        return s.lodgers.get(p).keySet().stream().mapToInt(n -> told.names.get(n).eats).sum();
    }

    private int unkind(State s, int p) {
        return s.lodgers.get(p).keySet().stream().mapToInt(n -> told.names.get(n).unkind).sum();
    }

    private boolean quarrel(int n, int m) {
        int apart = told.names.get(n).unkind - told.names.get(m).unkind;
        return apart >= told.q || -apart >= told.q;
    }

    private static void thin(TreeMap<Integer, Integer> home, int n, int by) {
        int left = home.get(n) - by;
        if (left <= 0) {
            home.remove(n);
        } else {
            home.put(n, left);
        }
    }

    /** A DAY: those without a BED, as 10 times the PERSON and the NAME, in order. */
    private List<Integer> day(State s) {
        List<Integer> without = new ArrayList<>();
        for (int p = 0; p < told.persons.size(); p++) {
            if (told.persons.get(p).kind == 4) {
                continue;
            }
            TreeMap<Integer, Integer> home = s.lodgers.get(p);
            for (int n = 0; n < told.names.size(); n++) {
                int w = 0;
                for (int i = 0; i < told.persons.size(); i++) {
                    w += s.words.contains(new Word(p, i, n)) ? 1 : 0;
                }
                if (home.containsKey(n)) {
                    if (w > 0) {
                        home.put(n, Math.min(9, home.get(n) + w));
                    } else {
                        thin(home, n, told.persons.get(p).kind == 3 ? 2 : 1);
                    }
                } else if (w > 0 && !comes(home, p, n, w)) {
                    without.add(10 * p + n);
                }
            }
            if (eaten(s, p) > told.persons.get(p).food) {
                int best = -1;
                for (int n : home.keySet()) {
                    if (best < 0 || home.get(n) > home.get(best)) {
                        best = n;
                    }
                }
                thin(home, best, 1);
            }
        }
        s.days++;
        s.noBeds += without.size();
        return without;
    }

    private boolean comes(TreeMap<Integer, Integer> home, int p, int n, int w) {
        if (told.persons.get(p).kind == 2) {
            for (int m : home.keySet()) {
                if (quarrel(n, m)) {
                    return false;
                }
            }
        }
        if (home.size() < beds(p)) {
            home.put(n, w);
            return true;
        }
        Integer least = null;
        for (int m : home.descendingKeySet()) {
            if (least == null || told.names.get(m).unkind < told.names.get(least).unkind) {
                least = m;
            }
        }
        if (least == null || told.names.get(least).unkind >= told.names.get(n).unkind) {
            return false;
        }
        home.remove(least);
        home.put(n, w);
        return true;
    }

    private State after(State s, int days) {
        State t = s.copy();
        for (int d = 0; d < days; d++) {
            day(t);
        }
        return t;
    }

    private State afterWith(int days, Word... added) {
        State t = now.copy();
        t.words.addAll(Arrays.asList(added));
        return after(t, days);
    }

    // ---- what a number may be

    private boolean person(int p) {
        return p >= 0 && p < told.persons.size();
    }

    private boolean named(int n) {
        return n >= 0 && n < told.names.size();
    }

    private static boolean in(int v, int low, int high) {
        return v >= low && v <= high;
    }

    private int stoutIn(State s, int p, int n) {
        return s.lodgers.get(p).getOrDefault(n, 0);
    }

    private void remember() {
        past.push(now.copy());
        if (past.size() > 8) {
            past.removeLast();
        }
    }

    // ---- the face

    int write(int letter) {
        if (!in(letter, 32, 126)) {
            return BAD;
        }
        if (text.length() == 200) {
            return FULL;
        }
        text.append((char) letter);
        return text.length();
    }

    int wipe() {
        int length = text.length();
        text.setLength(0);
        return length;
    }

    int fault() {
        return read(text.toString()).fault;
    }

    int lay() {
        Told t = read(text.toString());
        if (t.fault != NONE || t.persons.isEmpty() || t.names.isEmpty()) {
            return NO;
        }
        begin(t);
        past.clear();
        kept.clear();
        seen.clear();
        return t.persons.size();
    }

    int person(int p, int what) {
        if (!person(p) || !in(what, 0, 4)) {
            return BAD;
        }
        int bits = 0;
        for (int n : now.lodgers.get(p).keySet()) {
            bits += 1 << n;
        }
        Person who = told.persons.get(p);
        return new int[] {who.kind, beds(p), who.food, bits, eaten(now, p) > who.food ? 1 : 0}[what];
    }

    int name(int n, int what) {
        if (!named(n) || !in(what, 0, 1)) {
            return BAD;
        }
        return what == 0 ? told.names.get(n).unkind : told.names.get(n).eats;
    }

    int stout(int p, int n) {
        return person(p) && named(n) ? stoutIn(now, p, n) : BAD;
    }

    int calls(int i, int j, int n) {
        if (!person(i) || !person(j) || !named(n) || i == j) {
            return BAD;
        }
        return now.words.contains(new Word(j, i, n)) ? 1 : 0;
    }

    int pass(int n) {
        if (!in(n, 1, 20)) {
            return BAD;
        }
        remember();
        now = after(now, n);
        return now.days;
    }

    int say(int i, int j, int n) {
        if (!person(i) || !person(j) || !named(n) || i == j) {
            return BAD;
        }
        Word w = new Word(j, i, n);
        if (!now.words.contains(w) && now.words.size() == 12) {
            return FULL;
        }
        remember();
        flip(now.words, w);
        return now.words.contains(w) ? 1 : 0;
    }

    int mend(int p) {
        if (!person(p)) {
            return BAD;
        }
        remember();
        TreeMap<Integer, Integer> home = now.lodgers.get(p);
        int before = home.size();
        for (int n : new ArrayList<>(home.keySet())) {
            thin(home, n, 1);
        }
        return before - home.size();
    }

    int undo() {
        if (past.isEmpty()) {
            return NO;
        }
        now = past.pop();
        return past.size();
    }

    int behind(int days, int p, int n) {
        if (!in(days, 0, 40) || !person(p) || !named(n)) {
            return BAD;
        }
        return stoutIn(after(now, days), p, n);
    }

    int homeless(int what) {
        if (!in(what, 0, 1)) {
            return BAD;
        }
        State t = now.copy();
        for (int d = 1; d <= 40; d++) {
            List<Integer> without = day(t);
            if (!without.isEmpty()) {
                return what == 0 ? without.get(0) : d;
            }
        }
        return NONE;
    }

    int load(int p, int what) {
        if (!person(p) || !in(what, 0, 1)) {
            return BAD;
        }
        return what == 0 ? unkind(now, p) : eaten(now, p);
    }

    int out(int p, int n, int days, int k) {
        if (!person(p) || !named(n) || !in(days, 1, 20) || !in(k, 0, 2)) {
            return BAD;
        }
        List<Word> set = outSet(p, n, days);
        if (set == null || k > set.size()) {
            return NONE;
        }
        return k == 0 ? set.size() : 10 * set.get(k - 1).i + set.get(k - 1).n;
    }

    private List<Word> outSet(int p, int n, int days) {
        List<Word> all = new ArrayList<>();
        for (int i = 0; i < told.persons.size(); i++) {
            for (int m = 0; m < told.names.size() && i != p; m++) {
                all.add(new Word(p, i, m));
            }
        }
        List<List<Word>> sets = new ArrayList<>();
        sets.add(List.of());
        for (Word one : all) {
            sets.add(List.of(one));
        }
        for (Word one : all) {
            for (Word other : all) {
                if (one.compareTo(other) < 0) {
                    sets.add(List.of(one, other));
                }
            }
        }
        for (List<Word> set : sets) {
            State t = now.copy();
            for (Word w : set) {
                flip(t.words, w);
            }
            if (stoutIn(after(t, days), p, n) == 0) {
                return set;
            }
        }
        return null;
    }

    int rooms(int p) {
        return person(p)
                ? fewestRooms(new ArrayList<>(now.lodgers.get(p).keySet()), 0, new ArrayList<>()) : BAD;
    }

    /** By putting each into every room, and into one of its own. */
    private int fewestRooms(List<Integer> guests, int k, List<List<Integer>> rooms) {
        if (k == guests.size()) {
            return rooms.size();
        }
        int guest = guests.get(k);
        int best = 99;
        for (int r = 0; r < rooms.size(); r++) {
            List<Integer> room = rooms.get(r);
            if (room.stream().noneMatch(m -> quarrel(m, guest))) {
                room.add(guest);
                best = Math.min(best, fewestRooms(guests, k + 1, rooms));
                room.remove(room.size() - 1);
            }
        }
        List<Integer> own = new ArrayList<>(List.of(guest));
        rooms.add(own);
        best = Math.min(best, fewestRooms(guests, k + 1, rooms));
        rooms.remove(rooms.size() - 1);
        return best;
    }

    int game(int i, int j, int days, int what) {
        if (!person(i) || !person(j) || i == j || !in(days, 1, 10) || !in(what, 0, 1)) {
            return BAD;
        }
        int names = told.names.size();
        int[][] gain = new int[names + 1][names + 1];
        for (int a = 0; a <= names; a++) {
            for (int b = 0; b <= names; b++) {
                List<Word> added = new ArrayList<>();
                if (a < names) {
                    added.add(new Word(j, i, a));
                }
                if (b < names) {
                    added.add(new Word(i, j, b));
                }
                State t = afterWith(days, added.toArray(new Word[0]));
                gain[a][b] = unkind(t, j) - unkind(t, i);
            }
        }
        int many = 0;
        int first = NONE;
        for (int a = 0; a <= names; a++) {
            for (int b = 0; b <= names; b++) {
                boolean rests = true;
                for (int c = 0; c <= names; c++) {
                    rests &= gain[c][b] <= gain[a][b] && -gain[a][c] <= -gain[a][b];
                }
                if (rests && many++ == 0) {
                    first = 10 * (a < names ? a : 9) + (b < names ? b : 9);
                }
            }
        }
        return what == 0 ? many : first;
    }

    int see(int p, int n, int days, int v) {
        if (!person(p) || !named(n) || !in(days, 1, 20) || !in(v, 0, 9)) {
            return BAD;
        }
        if (seen.size() == 6) {
            return FULL;
        }
        seen.add(new Seen(p, n, days, v));
        return seen.size();
    }

    int forget() {
        int many = seen.size();
        seen.clear();
        return many;
    }

    int said(int i, int j) {
        if (!person(i) || !person(j) || i == j) {
            return BAD;
        }
        int bits = allSeen() ? 256 : 0;
        for (int n = 0; n < told.names.size(); n++) {
            bits += allSeen(new Word(j, i, n)) ? 1 << n : 0;
        }
        return bits;
    }

    private boolean allSeen(Word... added) {
        return seen.stream().allMatch(s -> stoutIn(afterWith(s.t, added), s.p, s.n) == s.v);
    }

    int whose(int p, int n) {
        if (!person(p) || !named(n)) {
            return BAD;
        }
        return now.words.stream().filter(w -> w.j == p && w.n == n).mapToInt(w -> 1 << w.i).sum();
    }

    long chance(int p, int n, int x, int part) {
        if (!person(p) || !named(n) || !in(x, 0, 10) || !in(part, 0, 1)) {
            return BAD;
        }
        List<Word> about = now.words.stream().filter(w -> w.j == p).toList();
        BigInteger above = above(about, 0, new TreeSet<>(), p, n, x);
        BigInteger below = BigInteger.TEN.pow(about.size());
        return (part == 0 ? above : below).divide(above.gcd(below)).longValueExact();
    }

    private BigInteger above(List<Word> about, int k, Set<Word> spoken, int p, int n, int x) {
        if (k == about.size()) {
            State t = now.copy();
            t.words.clear();
            t.words.addAll(spoken);
            return stoutIn(after(t, 1), p, n) > 0 ? BigInteger.ONE : BigInteger.ZERO;
        }
        BigInteger without = above(about, k + 1, spoken, p, n, x);
        spoken.add(about.get(k));
        BigInteger with = above(about, k + 1, spoken, p, n, x);
        spoken.remove(about.get(k));
        return with.multiply(BigInteger.valueOf(x)).add(without.multiply(BigInteger.valueOf(10 - x)));
    }

    int year(int z, int n, int what) {
        if (!in(z, 0, 9999) || !in(n, 1, 60) || !in(what, 0, 1)) {
            return BAD;
        }
        State t = now.copy();
        int persons = told.persons.size();
        for (int k = 0; k < n; k++) {
            BigInteger x = BigInteger.valueOf(7919L * z + 6151L * k + 1);
            int draw = x.multiply(x).mod(BigInteger.valueOf(65521)).intValueExact();
            Word w = new Word(draw / 64 % persons, draw % persons, draw / 8 % told.names.size());
            if (w.i != w.j && (t.words.contains(w) || t.words.size() < 12)) {
                flip(t.words, w);
            }
            day(t);
        }
        return what == 0 ? t.lodging() : t.noBeds - now.noBeds;
    }

    int keep() {
        if (kept.size() == 2) {
            return FULL;
        }
        kept.push(now.copy());
        return kept.size();
    }

    int back() {
        if (kept.isEmpty()) {
            return NO;
        }
        now = kept.pop();
        past.clear();
        return kept.size();
    }

    int count(int what) {
        int[] all = {told.persons.size(), told.names.size(), now.words.size(), now.lodging(),
            now.days, now.noBeds, told.q, seen.size(), past.size(), kept.size(), text.length()};
        return in(what, 0, 10) ? all[what] : BAD;
    }
}
