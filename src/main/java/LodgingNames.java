/**
 * A port in which nicknames lodge with those who are called by them, and eat.
 *
 * All rows are made in the constructor: the calls of one object share their room with all
 * others, so no call makes an object of its own.
 */
public final class LodgingNames {
    public static final int BAD = -1, NO = -2, FULL = -3, NONE = -4;

    private static final int HARBOURMASTER = 1, CURATE = 2, MENDER = 3, CHILD = 4;
    private static final int MOST_PERSONS = 6, MOST_NAMES = 8, MOST_WORDS = 12;
    private static final int MOST_UNKIND = 20, MOST_STOUT = 9, MOST_LETTERS = 200;
    private static final int MOST_SEEN = 6, MOST_UNDONE = 8, MOST_KEPT = 2;
    private static final int DAYS_OF_HOMELESS = 40;
    private static final int SO_AS_IT_IS = 256;
    private static final int NO_NAME = 9;
    private static final String FIRST_TEXT =
            "p0,2,6;p1,2,12;p2,2,9;p3,1,5;p4,3,8;n3,2;n9,4;n1,1;n14,3;n6,5;c0,1,0;c1,0,3;c2,1,1;c0,2,2;c3,2,4;c4,1,0;c1,3,1;c0,4,1;q6;";

    private final Text text = new Text();
    private final Port port = new Port();
    private final Port draft = new Port();
    private final Standing now = new Standing();
    private final Standing then = new Standing();
    private final Pile past = new Pile(MOST_UNDONE);
    private final Pile kept = new Pile(MOST_KEPT);
    private final Sights sights = new Sights();
    private final House house = new House(port);
    private final Outlook outlook = new Outlook(port, now, house);

    public LodgingNames() {
        for (int k = 0; k < FIRST_TEXT.length(); k++) {
            text.add(FIRST_TEXT.charAt(k));
        }
        text.readInto(port);
        now.begin(port);
        text.clear();
    }

    // ---- ports

    public int write(int letter) {
        if (!within(letter, 32, 126)) {
            return BAD;
        }
        if (text.length >= MOST_LETTERS) {
            return FULL;
        }
        text.add(letter);
        return text.length;
    }

    public int wipe() {
        int length = text.length;
        text.clear();
        return length;
    }

    public int fault() {
        return text.readInto(draft);
    }

    public int lay() {
        // A draft is read first, for the port must stay as it is if the text can't be laid.
        if (text.readInto(draft) != NONE || draft.persons < 1 || draft.names < 1) {
            return NO;
        }
        text.readInto(port);
        now.begin(port);
        past.clear();
        kept.clear();
        sights.clear();
        return port.persons;
    }

    public int person(int p, int what) {
        if (!isPerson(p) || !within(what, 0, 4)) {
            return BAD;
        }
        house.enter(now, p);
        switch (what) {
            case 0: return house.kind;
            case 1: return house.beds;
            case 2: return house.food;
            case 3: return house.lodgers();
            default: return house.together(port.eats) > house.food ? 1 : 0;
        }
    }

    public int name(int n, int what) {
        if (!isName(n) || !within(what, 0, 1)) {
            return BAD;
        }
        return what == 0 ? at(port.unkind, n) : at(port.eats, n);
    }

    public int stout(int p, int n) {
        return isLodging(p, n) ? now.stoutAt(p, n) : BAD;
    }

    public int calls(int i, int j, int n) {
        if (!isWord(i, j, n)) {
            return BAD;
        }
        return now.words.has(i, j, n) ? 1 : 0;
    }

    // ---- days

    public int pass(int n) {
        if (!within(n, 1, 20)) {
            return BAD;
        }
        past.push(now);
        outlook.passDays(now, n);
        return now.days;
    }

    public int say(int i, int j, int n) {
        if (!isWord(i, j, n)) {
            return BAD;
        }
        if (!now.words.canFlip(i, j, n)) {
            return FULL;
        }
        past.push(now);
        now.words.flip(i, j, n);
        return now.words.has(i, j, n) ? 1 : 0;
    }

    public int mend(int p) {
        if (!isPerson(p)) {
            return BAD;
        }
        past.push(now);
        int before = now.lodgings();
        now.thinAll(p);
        return before - now.lodgings();
    }

    public int undo() {
        if (past.held < 1) {
            return NO;
        }
        past.pop(now);
        return past.held;
    }

    // ---- what comes

    public int behind(int days, int p, int n) {
        if (!within(days, 0, 40) || !isLodging(p, n)) {
            return BAD;
        }
        house.enter(now, p);
        house.passDays(days);
        return at(house.stoutness, n);
    }

    public int homeless(int what) {
        if (!within(what, 0, 1)) {
            return BAD;
        }
        if (!outlook.findHomeless()) {
            return NONE;
        }
        return what == 0 ? outlook.first : outlook.second;
    }

    public int load(int p, int what) {
        if (!isPerson(p) || !within(what, 0, 1)) {
            return BAD;
        }
        house.enter(now, p);
        return house.together(what == 0 ? port.unkind : port.eats);
    }

    public int out(int p, int n, int days, int k) {
        if (!isLodging(p, n) || !within(days, 1, 20) || !within(k, 0, 2)) {
            return BAD;
        }
        int many = outlook.findOut(p, n, days);
        if (many < k) {
            return NONE;
        }
        switch (k) {
            case 0: return many;
            case 1: return outlook.first;
            default: return outlook.second;
        }
    }

    public int rooms(int p) {
        if (!isPerson(p)) {
            return BAD;
        }
        house.enter(now, p);
        return house.fewestRooms();
    }

    public int game(int i, int j, int days, int what) {
        if (!isPair(i, j) || !within(days, 1, 10) || !within(what, 0, 1)) {
            return BAD;
        }
        // What one does tells on the other one's LOAD alone, so each is best off by what makes
        // that LOAD the most, whatever the other one does: the pairs that rest are all of these.
        int many = outlook.findWorst(i, j, days);
        int first = outlook.first;
        many *= outlook.findWorst(j, i, days);
        return what == 0 ? many : 10 * first + outlook.first;
    }

    // ---- what was seen

    public int see(int p, int n, int days, int v) {
        if (!isLodging(p, n) || !within(days, 1, 20) || !within(v, 0, 9)) {
            return BAD;
        }
        if (sights.many >= MOST_SEEN) {
            return FULL;
        }
        sights.add(p, n, days, v);
        return sights.many;
    }

    public int forget() {
        int many = sights.many;
        sights.clear();
        return many;
    }

    public int said(int i, int j) {
        if (!isPair(i, j)) {
            return BAD;
        }
        int bits = outlook.holds(sights, j, 0L) ? SO_AS_IT_IS : 0;
        for (int n = 0; n < port.names; n++) {
            if (outlook.holds(sights, j, Words.bit(i, n))) {
                bits |= 1 << n;
            }
        }
        return bits;
    }

    public int whose(int p, int n) {
        return isLodging(p, n) ? Words.callers(now.words.about(p), n) : BAD;
    }

    // ---- chance, years

    public long chance(int p, int n, int x, int part) {
        if (!isLodging(p, n) || !within(x, 0, 10) || !within(part, 0, 1)) {
            return BAD;
        }
        long above = outlook.chanceAbove(p, n, x);
        long below = power(10, Long.bitCount(now.words.about(p)));
        long shared = greatestShared(above, below);
        if (shared < 1) {
            return 0;
        }
        return (part == 0 ? above : below) / shared;
    }

    public int year(int z, int n, int what) {
        if (!within(z, 0, 9999) || !within(n, 1, 60) || !within(what, 0, 1)) {
            return BAD;
        }
        then.become(now);
        for (int k = 0; k < n; k++) {
            long x = 7919L * z + 6151L * k + 1;
            outlook.flipDrawn(then, (int) (x * x % 65521));
            outlook.passDays(then, 1);
        }
        return what == 0 ? then.lodgings() : then.noBeds - now.noBeds;
    }

    public int keep() {
        if (kept.held >= MOST_KEPT) {
            return FULL;
        }
        kept.push(now);
        return kept.held;
    }

    public int back() {
        if (kept.held < 1) {
            return NO;
        }
        kept.pop(now);
        past.clear();
        return kept.held;
    }

    public int count(int what) {
        switch (what) {
            case 0: return port.persons;
            case 1: return port.names;
            case 2: return now.words.total();
            case 3: return now.lodgings();
            case 4: return now.days;
            case 5: return now.noBeds;
            case 6: return port.quarrel;
            case 7: return sights.many;
            case 8: return past.held;
            case 9: return kept.held;
            case 10: return text.length;
            default: return BAD;
        }
    }

    // ---- what a number may be

    private boolean isPerson(int p) {
        return within(p, 0, port.persons - 1);
    }

    private boolean isName(int n) {
        return within(n, 0, port.names - 1);
    }

    private boolean isLodging(int p, int n) {
        return isPerson(p) && isName(n);
    }

    private boolean isPair(int i, int j) {
        return isPerson(i) && isPerson(j) && i != j;
    }

    private boolean isWord(int i, int j, int n) {
        return isPair(i, j) && isName(n);
    }

    private static boolean within(int value, int low, int high) {
        return low <= value && value <= high;
    }

    // ---- rows and numbers

    // Every row is read and written through these, so that no index goes by unlooked at.

    private static int at(int[] row, int place) {
        return row != null && place >= 0 && place < row.length ? row[place] : 0;
    }

    private static long at(long[] row, int place) {
        return row != null && place >= 0 && place < row.length ? row[place] : 0L;
    }

    private static void put(int[] row, int place, int value) {
        if (row != null && place >= 0 && place < row.length) {
            row[place] = value;
        }
    }

    private static void put(long[] row, int place, long value) {
        if (row != null && place >= 0 && place < row.length) {
            row[place] = value;
        }
    }

    private static long power(long base, int times) {
        long product = 1;
        for (int k = 0; k < times; k++) {
            product *= base;
        }
        return product;
    }

    private static long greatestShared(long a, long b) {
        long more = a;
        long less = b;
        // Numbers of up to 10 to the 12th are through in some sixty steps.
        for (int k = 0; k < 1000 && less != 0; k++) {
            long rest = more % less;
            more = less;
            less = rest;
        }
        return more;
    }

    /** Who CALLS whom what. */
    private static final class Words {
        private static final int BITS_OF_A_NAME = 6;
        private static final int ALL_CALLERS = 63;

        // For each PERSON a bit for each NAME and each who CALLS him by it.
        private final long[] rows = new long[MOST_PERSONS];

        static long bit(int i, int n) {
            return 1L << (BITS_OF_A_NAME * n + i);
        }

        /** Who say the WORDS by this NAME, of a row. */
        static int callers(long row, int n) {
            return (int) (row >>> (BITS_OF_A_NAME * n)) & ALL_CALLERS;
        }

        long about(int p) {
            return at(rows, p);
        }

        boolean has(int i, int j, int n) {
            return (at(rows, j) & bit(i, n)) != 0;
        }

        int total() {
            int many = 0;
            for (int p = 0; p < MOST_PERSONS; p++) {
                many += Long.bitCount(at(rows, p));
            }
            return many;
        }

        boolean canFlip(int i, int j, int n) {
            return has(i, j, n) || total() < MOST_WORDS;
        }

        void flip(int i, int j, int n) {
            put(rows, j, at(rows, j) ^ bit(i, n));
        }

        void clear() {
            for (int p = 0; p < MOST_PERSONS; p++) {
                put(rows, p, 0L);
            }
        }

        void become(Words other) {
            for (int p = 0; p < MOST_PERSONS; p++) {
                put(rows, p, other.about(p));
            }
        }
    }

    /** What a TEXT tells: it stays as it is for as long as the port is laid. */
    private static final class Port {
        private final int[] kinds = new int[MOST_PERSONS];
        private final int[] beds = new int[MOST_PERSONS];
        private final int[] foods = new int[MOST_PERSONS];
        private final int[] unkind = new int[MOST_NAMES];
        private final int[] eats = new int[MOST_NAMES];
        private final Words words = new Words();
        private int persons;
        private int names;
        private int quarrel;

        void clear() {
            persons = 0;
            names = 0;
            quarrel = 8;
            words.clear();
        }

        /** Takes an ITEM of so many numbers as its letter has; false if it is not so. */
        boolean tell(int letter, int a, int b, int c) {
            switch (letter) {
                case 'p': return tellPerson(a, b, c);
                case 'n': return tellName(a, b);
                case 'c': return tellWord(a, b, c);
                case 'q': return tellQuarrel(a);
                default: return false;
            }
        }

        private boolean tellPerson(int kind, int bedsTold, int food) {
            if (persons >= MOST_PERSONS || !within(kind, 0, 4) || !within(bedsTold, 0, 5)
                    || !within(food, 0, 30)) {
                return false;
            }
            put(kinds, persons, kind);
            put(beds, persons, kind == HARBOURMASTER ? 2 * bedsTold : bedsTold);
            put(foods, persons, food);
            persons++;
            return true;
        }

        private boolean tellName(int howUnkind, int eaten) {
            if (names >= MOST_NAMES || !within(howUnkind, 0, MOST_UNKIND)
                    || !within(eaten, 0, 9)) {
                return false;
            }
            put(unkind, names, howUnkind);
            put(eats, names, eaten);
            names++;
            return true;
        }

        private boolean tellWord(int i, int j, int n) {
            if (!within(i, 0, persons - 1) || !within(j, 0, persons - 1) || i == j
                    || !within(n, 0, names - 1) || !words.canFlip(i, j, n)) {
                return false;
            }
            words.flip(i, j, n);
            return true;
        }

        private boolean tellQuarrel(int apart) {
            if (!within(apart, 1, 20)) {
                return false;
            }
            quarrel = apart;
            return true;
        }
    }

    /** THE TEXT, and how it is read. */
    private static final class Text {
        private final int[] letters = new int[MOST_LETTERS];
        private final int[] numbers = new int[3];
        private int length;

        void clear() {
            length = 0;
        }

        void add(int letter) {
            if (length < MOST_LETTERS) {
                put(letters, length, letter);
                length++;
            }
        }

        /** Puts what the TEXT tells into a port: FAULT, or NONE. */
        int readInto(Port port) {
            port.clear();
            int start = 0;
            for (int item = 0; item < MOST_LETTERS && start < length; item++) {
                int letter = letterAt(start);
                int next = readNumbers(start + 1, numbersOf(letter));
                if (next < 0 || !port.tell(letter, at(numbers, 0), at(numbers, 1),
                        at(numbers, 2))) {
                    return start;
                }
                start = next;
            }
            return NONE;
        }

        private static int numbersOf(int letter) {
            switch (letter) {
                case 'p': return 3;
                case 'n': return 2;
                case 'c': return 3;
                case 'q': return 1;
                default: return 0;
            }
        }

        /** Reads so many numbers: the place behind their ; or -1 if they do not stand there. */
        private int readNumbers(int from, int many) {
            int place = from;
            for (int k = 0; k < many; k++) {
                int value = figureAt(place);
                if (value < 0) {
                    return -1;
                }
                place++;
                int second = figureAt(place);
                if (second >= 0) {
                    value = 10 * value + second;
                    place++;
                }
                put(numbers, k, value);
                if (letterAt(place) != (k == many - 1 ? ';' : ',')) {
                    return -1;
                }
                place++;
            }
            return many > 0 ? place : -1;
        }

        private int figureAt(int place) {
            int letter = letterAt(place);
            return within(letter, '0', '9') ? letter - '0' : -1;
        }

        // Letters of an earlier TEXT may still stand behind the end.
        private int letterAt(int place) {
            return place < length ? at(letters, place) : 0;
        }
    }

    /** All that days, words and mending change. */
    private static final class Standing {
        private final Words words = new Words();
        private final int[] stoutness = new int[MOST_PERSONS * MOST_NAMES];
        private int days;
        private int noBeds;

        void begin(Port port) {
            words.become(port.words);
            for (int k = 0; k < MOST_PERSONS * MOST_NAMES; k++) {
                put(stoutness, k, 0);
            }
            days = 0;
            noBeds = 0;
        }

        void become(Standing other) {
            words.become(other.words);
            for (int k = 0; k < MOST_PERSONS * MOST_NAMES; k++) {
                put(stoutness, k, at(other.stoutness, k));
            }
            days = other.days;
            noBeds = other.noBeds;
        }

        int stoutAt(int p, int n) {
            return at(stoutness, MOST_NAMES * p + n);
        }

        void setStout(int p, int n, int value) {
            put(stoutness, MOST_NAMES * p + n, value);
        }

        /** How many lodge anywhere, each NAME with each PERSON with whom it does. */
        int lodgings() {
            int many = 0;
            for (int k = 0; k < MOST_PERSONS * MOST_NAMES; k++) {
                if (at(stoutness, k) > 0) {
                    many++;
                }
            }
            return many;
        }

        void thinAll(int p) {
            for (int n = 0; n < MOST_NAMES; n++) {
                setStout(p, n, Math.max(0, stoutAt(p, n) - 1));
            }
        }
    }

    /** So many standings, the last one on top; of more the oldest one is lost. */
    private static final class Pile {
        private final Standing[] places;
        private int held;
        private int next;

        Pile(int most) {
            places = new Standing[Math.max(1, most)];
            for (int k = 0; k < places.length; k++) {
                places[k] = new Standing();
            }
        }

        void clear() {
            held = 0;
        }

        void push(Standing standing) {
            Standing place = placeAt(next);
            if (place == null) {
                return;
            }
            place.become(standing);
            next = next < places.length - 1 ? next + 1 : 0;
            held = Math.min(places.length, held + 1);
        }

        void pop(Standing standing) {
            int last = next > 0 ? next - 1 : places.length - 1;
            Standing place = placeAt(last);
            if (held < 1 || place == null) {
                return;
            }
            standing.become(place);
            next = last;
            held--;
        }

        private Standing placeAt(int k) {
            return k >= 0 && k < places.length ? places[k] : null;
        }
    }

    /** What is SEEN. */
    private static final class Sights {
        private final int[] persons = new int[MOST_SEEN];
        private final int[] names = new int[MOST_SEEN];
        private final int[] days = new int[MOST_SEEN];
        private final int[] stoutness = new int[MOST_SEEN];
        private int many;

        void clear() {
            many = 0;
        }

        void add(int p, int n, int behindDays, int v) {
            if (many < MOST_SEEN) {
                put(persons, many, p);
                put(names, many, n);
                put(days, many, behindDays);
                put(stoutness, many, v);
                many++;
            }
        }
    }

    /**
     * Those who lodge with one PERSON, while days go by or are tried out. What happens with one
     * PERSON tells on no other one, so each house can live through its days by itself.
     */
    private static final class House {
        private final Port port;
        private final int[] stoutness = new int[MOST_NAMES];
        private int kind;
        private int beds;
        private int food;
        private long words;

        House(Port port) {
            this.port = port;
        }

        void enter(Standing standing, int p) {
            kind = at(port.kinds, p);
            beds = at(port.beds, p);
            food = at(port.foods, p);
            words = standing.words.about(p);
            for (int n = 0; n < MOST_NAMES; n++) {
                put(stoutness, n, standing.stoutAt(p, n));
            }
        }

        void settle(Standing standing, int p) {
            for (int n = 0; n < MOST_NAMES; n++) {
                standing.setStout(p, n, at(stoutness, n));
            }
        }

        /** So many DAYS: how often one had NO BED. */
        int passDays(int days) {
            int noBeds = 0;
            for (int d = 0; d < days; d++) {
                noBeds += Integer.bitCount(passDay());
            }
            return noBeds;
        }

        /** A DAY: which NAMES had NO BED (bits). */
        int passDay() {
            int noBed = 0;
            if (kind == CHILD) {
                return noBed;
            }
            for (int n = 0; n < port.names; n++) {
                int callers = Integer.bitCount(Words.callers(words, n));
                if (at(stoutness, n) > 0) {
                    liveOn(n, callers);
                } else if (callers > 0 && !takeIn(n, callers)) {
                    noBed |= 1 << n;
                }
            }
            if (together(port.eats) > food) {
                thinStoutest();
            }
            return noBed;
        }

        private void liveOn(int n, int callers) {
            int thinner = kind == MENDER ? 2 : 1;
            int then = at(stoutness, n) + (callers > 0 ? callers : -thinner);
            put(stoutness, n, Math.max(0, Math.min(MOST_STOUT, then)));
        }

        /** False if it has NO BED. */
        private boolean takeIn(int n, int callers) {
            int unkind = at(port.unkind, n);
            int lodging = 0;
            int least = -1;
            int leastUnkind = unkind;
            boolean quarrel = false;
            for (int m = 0; m < port.names; m++) {
                if (at(stoutness, m) > 0) {
                    int other = at(port.unkind, m);
                    lodging++;
                    quarrel |= Math.abs(unkind - other) >= port.quarrel;
                    if (least < 0 || other <= leastUnkind) {
                        least = m;
                        leastUnkind = other;
                    }
                }
            }
            if (kind == CURATE && quarrel) {
                return false;
            }
            if (lodging >= beds) {
                if (leastUnkind >= unkind) {
                    return false;
                }
                put(stoutness, least, 0);
            }
            put(stoutness, n, callers);
            return true;
        }

        private void thinStoutest() {
            int stoutest = 0;
            for (int n = 1; n < MOST_NAMES; n++) {
                if (at(stoutness, n) > at(stoutness, stoutest)) {
                    stoutest = n;
                }
            }
            put(stoutness, stoutest, Math.max(0, at(stoutness, stoutest) - 1));
        }

        /** What a row tells of all that lodge here, together. */
        int together(int[] row) {
            int sum = 0;
            for (int n = 0; n < MOST_NAMES; n++) {
                if (at(stoutness, n) > 0) {
                    sum += at(row, n);
                }
            }
            return sum;
        }

        int lodgers() {
            int bits = 0;
            for (int n = 0; n < MOST_NAMES; n++) {
                if (at(stoutness, n) > 0) {
                    bits |= 1 << n;
                }
            }
            return bits;
        }

        /**
         * NAMES stand along a line by how UNKIND they are, so a room opened for the least UNKIND
         * one that has none yet does best to take all that do not QUARREL with that one.
         */
        int fewestRooms() {
            int rooms = 0;
            int roomTo = -1;
            for (int u = 0; u <= MOST_UNKIND; u++) {
                if (u > roomTo && hasAsUnkind(u)) {
                    rooms++;
                    roomTo = u + port.quarrel - 1;
                }
            }
            return rooms;
        }

        private boolean hasAsUnkind(int u) {
            for (int n = 0; n < port.names; n++) {
                if (at(stoutness, n) > 0 && at(port.unkind, n) == u) {
                    return true;
                }
            }
            return false;
        }
    }

    /** What comes, or would come, from how things stand now. */
    private static final class Outlook {
        private final Port port;
        private final Standing now;
        private final House house;

        // What the find.. methods found, behind what they answer.
        private int first;
        private int second;

        Outlook(Port port, Standing now, House house) {
            this.port = port;
            this.now = now;
            this.house = house;
        }

        void passDays(Standing standing, int days) {
            for (int p = 0; p < port.persons; p++) {
                house.enter(standing, p);
                standing.noBeds += house.passDays(days);
                house.settle(standing, p);
            }
            standing.days += days;
        }

        /** Finds HOMELESS: who is first, on which DAY second; false for none. */
        boolean findHomeless() {
            second = DAYS_OF_HOMELESS + 1;
            for (int p = 0; p < port.persons; p++) {
                house.enter(now, p);
                // Only an earlier DAY counts, for a lower PERSON is first on the same one.
                for (int day = 1; day < second; day++) {
                    int noBed = house.passDay();
                    if (noBed != 0) {
                        first = 10 * p + lowest(noBed);
                        second = day;
                    }
                }
            }
            return second <= DAYS_OF_HOMELESS;
        }

        private static int lowest(int bits) {
            for (int n = 0; n < MOST_NAMES; n++) {
                if ((bits & 1 << n) != 0) {
                    return n;
                }
            }
            return 0;
        }

        /** Finds OUT: how many WORDS, which are first and second; NONE. */
        int findOut(int p, int n, int days) {
            if (isAway(p, n, days, 0L)) {
                return 0;
            }
            int choices = MOST_NAMES * port.persons;
            for (int a = 0; a < choices; a++) {
                long one = choice(p, a);
                if (one != 0 && isAway(p, n, days, one)) {
                    first = shown(a);
                    return 1;
                }
            }
            for (int a = 0; a < choices; a++) {
                long one = choice(p, a);
                for (int b = a + 1; one != 0 && b < choices; b++) {
                    long other = choice(p, b);
                    if (other != 0 && isAway(p, n, days, one | other)) {
                        first = shown(a);
                        second = shown(b);
                        return 2;
                    }
                }
            }
            return NONE;
        }

        /** The bit of the k-th WORD that one could say of a PERSON, by I, then N; 0 for none. */
        private long choice(int p, int k) {
            int i = k / MOST_NAMES;
            int n = k % MOST_NAMES;
            return i != p && n < port.names ? Words.bit(i, n) : 0L;
        }

        private static int shown(int k) {
            return 10 * (k / MOST_NAMES) + k % MOST_NAMES;
        }

        private boolean isAway(int p, int n, int days, long flipped) {
            house.enter(now, p);
            house.words ^= flipped;
            house.passDays(days);
            return at(house.stoutness, n) == 0;
        }

        /**
         * By how many choices I brings the most LOAD on J, the first of which is first: a NAME
         * more that he CALLS him, or none more, which comes last.
         */
        int findWorst(int i, int j, int days) {
            int many = 0;
            int most = -1;
            for (int n = 0; n <= port.names; n++) {
                house.enter(now, j);
                if (n < port.names) {
                    house.words |= Words.bit(i, n);
                }
                house.passDays(days);
                int unkind = house.together(port.unkind);
                if (unkind > most) {
                    most = unkind;
                    many = 0;
                    first = n < port.names ? n : NO_NAME;
                }
                if (unkind == most) {
                    many++;
                }
            }
            return many;
        }

        /** Whether all that is SEEN would be so, were these WORDS said of J, too. */
        boolean holds(Sights sights, int j, long added) {
            for (int k = 0; k < sights.many; k++) {
                int p = at(sights.persons, k);
                house.enter(now, p);
                if (p == j) {
                    house.words |= added;
                }
                house.passDays(at(sights.days, k));
                if (at(house.stoutness, at(sights.names, k)) != at(sights.stoutness, k)) {
                    return false;
                }
            }
            return true;
        }

        /** CHANCE, of 10 to the number of the WORDS of this PERSON: no others tell on it. */
        long chanceAbove(int p, int n, int x) {
            long all = now.words.about(p);
            int many = Math.min(MOST_WORDS, Long.bitCount(all));
            long sum = 0;
            long saidNow = all;
            for (int k = 0; k < 1 << many; k++) {
                house.enter(now, p);
                house.words = saidNow;
                house.passDay();
                if (at(house.stoutness, n) > 0) {
                    int spoken = Long.bitCount(saidNow);
                    sum += power(x, spoken) * power(10 - x, many - spoken);
                }
                // The next lower one of all sets of these bits.
                saidNow = (saidNow - 1) & all;
            }
            return sum;
        }

        /** Takes up, or drops, the WORD that is drawn, if it can be. */
        void flipDrawn(Standing standing, int draw) {
            if (port.persons < 1 || port.names < 1) {
                return;
            }
            int i = draw % port.persons;
            int j = draw / 64 % port.persons;
            int n = draw / 8 % port.names;
            if (i != j && standing.words.canFlip(i, j, n)) {
                standing.words.flip(i, j, n);
            }
        }
    }
}
