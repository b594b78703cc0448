/**
 * A land where a company may only be of so many as a rule allows: people, corners, ways and a day,
 * crowds that part, tables that fill, a ferry that takes companies whole. No call throws: a call
 * that is refused answers with a number below 0 and changes nothing but the counts of refusals.
 */
public final class OnlyPrimes {
    public static final int NONE = -1, BAD = -2, NO = -3, FULL = -4;

    /** For calls in which -1, -2 or -3 already tells something else, or could be taken for it. */
    private static final int NOT_SO = -5, BAD_APART = -10, NO_APART = -20, FIRST_FAULT = -10;

    private static final int CORNERS = 4, MOST_PEOPLE = 5, MOST_GOS = 24, MOST_HOUR = 23;
    private static final int MOST_BYTES = 200, BYTES_A_CALL = 8;
    private static final int RULES = 4, MOST_COMPANY = 99, MOST_TOLD = 20;
    private static final int MOST_CROWD = 30;
    private static final int MOST_KNOTS = 8, MOST_IN_KNOT = 9, MOST_COUNTED = 4, MOST_SEEN = 72;
    private static final int MOST_HIRED = 40;
    private static final int MOST_TABLES = 3, MOST_SEATS = 12, MOST_GUESTS = 24;
    private static final int MOST_COMPANIES = 8, MOST_ABOARD = 20, MOST_ROOM = 60, MOST_CREW = 3;
    private static final int IMAGES = 2, REASONS = 3, COUNTS = 7;

    private final Kept now = new Kept();
    private final Kept[] images = new Kept[] {new Kept(), new Kept()};
    private int imagesKept;
    private final int[] refused = new int[REASONS];
    private int above;
    private int below = 1;

    private final Reader reader = new Reader();
    private final Judge judge = new Judge();
    private final Rows rows = new Rows();
    private final Sets sets = new Sets();
    private final Walk walk = new Walk();
    private final Seats seats = new Seats();

    public OnlyPrimes() {
    }

    // ---- rules, lands, days

    public int told(int set) {
        if (set < 0 || set >= 1 << MOST_TOLD) {
            return refuse(BAD, BAD);
        }
        int was = now.set;
        now.set = set;
        return was;
    }

    public int allowed(int rule, int n) {
        if (!isRule(rule) || !isWithin(n, 1, MOST_COMPANY)) {
            return refuse(BAD, BAD);
        }
        return now.fits(rule, n) ? 1 : 0;
    }

    public int way(int a, int b, boolean is) {
        if (!isCorner(a) || !isCorner(b) || a == b) {
            return refuse(BAD, BAD);
        }
        if (now.land.hasWay(a, b) == is) {
            return refuse(NO, NO);
        }
        now.land.setWay(a, b, is);
        return 1;
    }

    public int one(int start, int home) {
        if (!isCorner(start) || !isCorner(home)) {
            return refuse(BAD, BAD);
        }
        if (now.land.starts.isFull()) {
            return refuse(FULL, FULL);
        }
        now.land.addPerson(start, home);
        return now.land.people() - 1;
    }

    public int type(long v, int n) {
        if (!isWithin(n, 1, BYTES_A_CALL)) {
            return refuse(BAD, BAD);
        }
        if (now.text.size() + n > MOST_BYTES) {
            return refuse(FULL, FULL);
        }
        for (int i = n - 1; i >= 0; i--) {
            now.text.add((int) (v >>> 8 * i & 255));
        }
        return now.text.size();
    }

    public int clear() {
        int had = now.text.size();
        now.text.empty();
        return had;
    }

    public int read() {
        int fault = reader.parse(now.text);
        if (fault >= 0) {
            return FIRST_FAULT - fault;
        }
        now.land.copy(reader.land);
        return now.land.gos();
    }

    public int judged(int rule) {
        if (!isRule(rule)) {
            return refuse(BAD, BAD_APART);
        }
        int wrong = judge.firstWrong(now, rule);
        if (wrong > 0) {
            return wrong;
        }
        return judge.allHome(now.land) ? NONE : NOT_SO;
    }

    public int ends(int person) {
        if (!now.land.isPerson(person)) {
            return refuse(BAD, BAD);
        }
        return now.land.lastCorner(person);
    }

    // ---- crowds

    public int parted(int rule, int n, int what) {
        if (!isRule(rule) || !isWithin(n, 0, MOST_CROWD) || !isWithin(what, 0, 2)) {
            return refuse(BAD, BAD_APART);
        }
        rows.fill(now, rule);
        if (what == 0) {
            return rows.number(n);
        }
        return what == 1 ? rows.fewest(n) : rows.most(n);
    }

    public int row(int rule, int n, int i, int k) {
        if (!isRule(rule) || !isWithin(n, 0, MOST_CROWD) || i < 0 || k < 0) {
            return refuse(BAD, BAD_APART);
        }
        rows.fill(now, rule);
        return rows.size(n, i, k);
    }

    public int knot(int people) {
        if (!isWithin(people, 1, MOST_IN_KNOT)) {
            return refuse(BAD, BAD);
        }
        if (now.knots.isFull()) {
            return refuse(FULL, FULL);
        }
        now.knots.add(people);
        return now.knots.size() - 1;
    }

    public int untie() {
        int were = now.knots.size();
        now.knots.empty();
        now.countedKnots.empty();
        now.countedSizes.empty();
        return were;
    }

    public int counted(int knot, int s) {
        if (!isKnot(knot) || !isWithin(s, 1, MOST_SEEN)) {
            return refuse(BAD, BAD);
        }
        if (now.countedKnots.isFull()) {
            return refuse(FULL, FULL);
        }
        now.countedKnots.add(knot);
        now.countedSizes.add(s);
        return now.countedKnots.size();
    }

    public int partings(int rule, int what) {
        if (!isRule(rule) || !isWithin(what, 0, 2)) {
            return refuse(BAD, BAD_APART);
        }
        sets.partKnots(now, rule);
        if (what == 0) {
            return sets.number();
        }
        return what == 1 ? sets.fewest() : sets.most();
    }

    public int together(int rule, int a, int b) {
        if (!isRule(rule) || !isKnot(a) || !isKnot(b) || a == b) {
            return refuse(BAD, BAD);
        }
        sets.partKnots(now, rule);
        if (sets.number() == 0) {
            return refuse(NO, NO);
        }
        keepFraction(sets.numberWith(a, b), sets.number());
        return 1;
    }

    // ---- ways

    public int soonest(int rule) {
        if (!isRule(rule)) {
            return refuse(BAD, BAD);
        }
        walk.search(now, rule);
        return walk.soonest;
    }

    public int at(int rule, int hour, int person) {
        if (!isRule(rule) || hour < 0 || !now.land.isPerson(person)) {
            return refuse(BAD, BAD_APART);
        }
        walk.search(now, rule);
        if (walk.soonest == NONE) {
            return refuse(NO, NO_APART);
        }
        return hour > walk.soonest ? NOT_SO : walk.cornerBehind(hour, person);
    }

    public int never(int rule) {
        if (!isRule(rule)) {
            return refuse(BAD, BAD);
        }
        walk.search(now, rule);
        return walk.never;
    }

    public int hired(int rule, boolean back) {
        if (!isRule(rule)) {
            return refuse(BAD, BAD);
        }
        for (int k = 0; k <= MOST_HIRED; k++) {
            boolean comesBack = !back || k == 0 || now.fits(rule, k);
            if (comesBack && now.fits(rule, 1 + k)) {
                return k;
            }
        }
        return NONE;
    }

    public int last(int corner, int n) {
        if (!isCorner(corner) || !isWithin(n, 0, MOST_COMPANY)) {
            return refuse(BAD, BAD);
        }
        int was = now.lasts.get(corner);
        now.lasts.set(corner, n);
        return was;
    }

    public int still(int rule) {
        if (!isRule(rule)) {
            return refuse(BAD, BAD);
        }
        int bits = 0;
        for (int corner = 0; corner < CORNERS; corner++) {
            if (now.land.starters(corner) > 0 && !now.canLeave(rule, corner)) {
                bits |= 1 << corner;
            }
        }
        return bits;
    }

    // ---- tables, ferries

    public int tables(int rule, int t, int s, int n, int what) {
        boolean isTold = isRule(rule) && isWithin(t, 1, MOST_TABLES) && isWithin(s, 1, MOST_SEATS);
        if (!isTold || !isWithin(n, 0, MOST_GUESTS) || !isWithin(what, 0, 1)) {
            return refuse(BAD, BAD);
        }
        seats.lay(now, rule, t, s);
        return what == 0 ? seats.fewestStood(n) : seats.fewestLeft(n);
    }

    public int company(int n) {
        if (!isWithin(n, 1, MOST_ABOARD)) {
            return refuse(BAD, BAD);
        }
        if (now.companies.isFull()) {
            return refuse(FULL, FULL);
        }
        now.companies.add(n);
        return now.companies.size() - 1;
    }

    public int disperse() {
        int were = now.companies.size();
        now.companies.empty();
        return were;
    }

    public int put(int what, int v) {
        if (what == 0 && isWithin(v, 1, MOST_ROOM)) {
            int was = now.room;
            now.room = v;
            return was;
        }
        if (what == 1 && isWithin(v, 0, MOST_CREW)) {
            int was = now.crew;
            now.crew = v;
            return was;
        }
        return refuse(BAD, BAD);
    }

    public int ferry(int rule, int what) {
        if (!isRule(rule) || !isWithin(what, 0, 1)) {
            return refuse(BAD, BAD);
        }
        sets.partCompanies(now, rule);
        return what == 0 ? sets.fewest() : sets.firstOfFewest();
    }

    // ---- what there is

    public int part(int what) {
        if (!isWithin(what, 0, 1)) {
            return refuse(BAD, BAD);
        }
        return what == 0 ? above : below;
    }

    public int image(int i) {
        if (!isWithin(i, 0, IMAGES - 1)) {
            return refuse(BAD, BAD);
        }
        images[i].copy(now);
        imagesKept |= 1 << i;
        return 1;
    }

    public int from(int i) {
        if (!isWithin(i, 0, IMAGES - 1)) {
            return refuse(BAD, BAD);
        }
        if ((imagesKept >> i & 1) == 0) {
            return refuse(NO, NO);
        }
        now.copy(images[i]);
        return 1;
    }

    public int status(int what) {
        if (!isWithin(what, 0, REASONS - 1)) {
            return refuse(BAD, -1);
        }
        return refused[what];
    }

    public int count(int what) {
        if (!isWithin(what, 0, COUNTS - 1)) {
            return refuse(BAD, BAD);
        }
        return howMany(what);
    }

    public long digest() {
        long h = 619;
        for (int what = 0; what < COUNTS; what++) {
            h = mix(h, howMany(what));
        }
        h = mix(h, now.set);
        h = mixLand(h, now.land);
        h = mixAll(h, now.text);
        h = mixAll(h, now.knots);
        h = mixPairs(h, now.countedKnots, now.countedSizes);
        h = mixAll(h, now.lasts);
        h = mixAll(h, now.companies);
        h = mix(mix(h, now.room), now.crew);
        return mix(mix(h, above), below);
    }

    // ---- what the calls share

    private static boolean isWithin(int v, int least, int most) {
        return v >= least && v <= most;
    }

    private static boolean isRule(int rule) {
        return isWithin(rule, 0, RULES - 1);
    }

    private static boolean isCorner(int corner) {
        return isWithin(corner, 0, CORNERS - 1);
    }

    private boolean isKnot(int knot) {
        return isWithin(knot, 0, now.knots.size() - 1);
    }

    /** Counts a refusal; some calls answer it by another number than its reason. */
    private int refuse(int reason, int answer) {
        int i = BAD - reason;
        if (i >= 0 && i < refused.length) {
            refused[i]++;
        }
        return answer;
    }

    private void keepFraction(int part, int whole) {
        int a = part;
        int b = whole;
        // Euclid's rests at least halve in every second turn: 64 turns are more than an int needs.
        for (int turn = 0; turn < 64 && b != 0; turn++) {
            int rest = a % b;
            a = b;
            b = rest;
        }
        if (a > 0) {
            above = part / a;
            below = whole / a;
        }
    }

    private int howMany(int what) {
        switch (what) {
            case 0: return now.land.wayCount();
            case 1: return now.land.people();
            case 2: return now.land.gos();
            case 3: return now.text.size();
            case 4: return now.knots.size();
            case 5: return now.countedKnots.size();
            default: return now.companies.size();
        }
    }

    private static long mix(long h, int v) {
        return 31 * h + v;
    }

    private static long mixAll(long h, Slots slots) {
        long mixed = h;
        for (int i = 0; i < slots.size(); i++) {
            mixed = mix(mixed, slots.get(i));
        }
        return mixed;
    }

    private static long mixPairs(long h, Slots first, Slots second) {
        long mixed = h;
        for (int i = 0; i < first.size(); i++) {
            mixed = mix(mix(mixed, first.get(i)), second.get(i));
        }
        return mixed;
    }

    private static long mixLand(long h, Land land) {
        long mixed = h;
        for (int a = 0; a < CORNERS; a++) {
            for (int b = 0; b < a; b++) {
                mixed = mix(mixed, land.hasWay(a, b) ? 1 : 0);
            }
        }
        mixed = mixPairs(mixed, land.starts, land.homes);
        for (int go = 0; go < land.gos(); go++) {
            mixed = mix(mix(mixed, land.hours.get(go)), land.froms.get(go));
            mixed = mix(mix(mixed, land.tos.get(go)), land.bands.get(go));
        }
        return mixed;
    }

    /** A row of numbers with a fixed room, so that nothing is made behind the constructor. */
    private static final class Slots {
        private final int[] values;
        private int size;

        Slots(int room) {
            values = new int[Math.max(room, 0)];
        }

        int size() {
            return size;
        }

        boolean isFull() {
            return size >= values.length;
        }

        int get(int i) {
            return i >= 0 && i < size ? values[i] : 0;
        }

        void set(int i, int v) {
            if (i >= 0 && i < size) {
                values[i] = v;
            }
        }

        void add(int v) {
            if (size < values.length) {
                values[size] = v;
                size++;
            }
        }

        void empty() {
            size = 0;
        }

        void copy(Slots other) {
            empty();
            for (int i = 0; i < other.size; i++) {
                add(other.get(i));
            }
        }
    }

    /** Corners, ways and people, with the day that was read for them. */
    private static final class Land {
        private int ways;
        final Slots starts = new Slots(MOST_PEOPLE);
        final Slots homes = new Slots(MOST_PEOPLE);
        final Slots hours = new Slots(MOST_GOS);
        final Slots froms = new Slots(MOST_GOS);
        final Slots tos = new Slots(MOST_GOS);
        final Slots bands = new Slots(MOST_GOS);

        private static int bit(int a, int b) {
            return 1 << CORNERS * a + b;
        }

        /** Each way stands in the bits twice, once from either end. */
        boolean hasWay(int a, int b) {
            return isCorner(a) && isCorner(b) && (ways & bit(a, b)) != 0;
        }

        void setWay(int a, int b, boolean is) {
            int both = bit(a, b) | bit(b, a);
            ways = is ? ways | both : ways & ~both;
        }

        int wayCount() {
            return Integer.bitCount(ways) / 2;
        }

        int wayBits() {
            return ways;
        }

        boolean hasWayOut(int corner) {
            for (int to = 0; to < CORNERS; to++) {
                if (hasWay(corner, to)) {
                    return true;
                }
            }
            return false;
        }

        int people() {
            return starts.size();
        }

        boolean isPerson(int person) {
            return isWithin(person, 0, people() - 1);
        }

        void addPerson(int start, int home) {
            starts.add(start);
            homes.add(home);
        }

        int starters(int corner) {
            int there = 0;
            for (int person = 0; person < people(); person++) {
                if (starts.get(person) == corner) {
                    there++;
                }
            }
            return there;
        }

        int gos() {
            return hours.size();
        }

        int lastHour() {
            return hours.get(gos() - 1);
        }

        void addGo(int hour, int from, int to, int band) {
            hours.add(hour);
            froms.add(from);
            tos.add(to);
            bands.add(band);
        }

        boolean goes(int go, int person) {
            return (bands.get(go) >> person & 1) == 1;
        }

        int lastCorner(int person) {
            for (int go = gos() - 1; go >= 0; go--) {
                if (goes(go, person)) {
                    return tos.get(go);
                }
            }
            return starts.get(person);
        }

        void empty() {
            ways = 0;
            starts.empty();
            homes.empty();
            hours.empty();
            froms.empty();
            tos.empty();
            bands.empty();
        }

        void copy(Land other) {
            ways = other.ways;
            starts.copy(other.starts);
            homes.copy(other.homes);
            hours.copy(other.hours);
            froms.copy(other.froms);
            tos.copy(other.tos);
            bands.copy(other.bands);
        }
    }

    /** All that an image keeps. */
    private static final class Kept {
        int set = 6;
        int room = 10;
        int crew;
        final Land land = new Land();
        final Slots text = new Slots(MOST_BYTES);
        final Slots knots = new Slots(MOST_KNOTS);
        final Slots countedKnots = new Slots(MOST_COUNTED);
        final Slots countedSizes = new Slots(MOST_COUNTED);
        final Slots lasts = new Slots(CORNERS);
        final Slots companies = new Slots(MOST_COMPANIES);

        Kept() {
            for (int corner = 0; corner < CORNERS; corner++) {
                lasts.add(0);
            }
        }

        void copy(Kept other) {
            set = other.set;
            room = other.room;
            crew = other.crew;
            land.copy(other.land);
            text.copy(other.text);
            knots.copy(other.knots);
            countedKnots.copy(other.countedKnots);
            countedSizes.copy(other.countedSizes);
            lasts.copy(other.lasts);
            companies.copy(other.companies);
        }

        boolean fits(int rule, int n) {
            if (!isWithin(n, 1, MOST_COMPANY)) {
                return false;
            }
            switch (rule) {
                case 0: return isPrime(n);
                case 1: return isSquare(n);
                case 2: return n % 2 == 0;
                case 3: return n <= MOST_TOLD && (set >> n - 1 & 1) == 1;
                default: return false;
            }
        }

        private static boolean isPrime(int n) {
            for (int d = 2; d < n; d++) {
                if (n % d == 0) {
                    return false;
                }
            }
            return n > 1;
        }

        private static boolean isSquare(int n) {
            for (int root = 1; root <= n; root++) {
                if (root * root == n) {
                    return true;
                }
            }
            return false;
        }

        boolean canLeave(int rule, int corner) {
            if (!land.hasWayOut(corner)) {
                return false;
            }
            for (int n = 1; n <= land.starters(corner); n++) {
                if (fits(rule, n) && n != lasts.get(corner)) {
                    return true;
                }
            }
            return false;
        }
    }

    /** Reads a text into a land of its own, so that a fault leaves the other one as it was. */
    private static final class Reader {
        private static final int END = 0, NUMBER = 1, STOP = 2, WAY = 3, ONE = 4, GO = 5, OTHER = 6;
        private static final int BLANK = 32;
        private static final String WAY_WORD = "way", ONE_WORD = "one", GO_WORD = "go";

        final Land land = new Land();
        private Slots text = new Slots(0);
        private int place;
        private int next;
        private int token;
        private int number;

        /** The place of the fault, or NONE. */
        int parse(Slots day) {
            text = day;
            next = 0;
            land.empty();
            // An item takes a byte at least.
            for (int item = 0; item <= day.size(); item++) {
                take();
                if (token == END) {
                    return NONE;
                }
                boolean stands = false;
                switch (token) {
                    case WAY: stands = takeWay(); break;
                    case ONE: stands = takeOne(); break;
                    case GO: stands = takeGo(); break;
                    default: break;
                }
                if (!stands) {
                    return place;
                }
            }
            return place;
        }

        private boolean takeWay() {
            if (!takeNumber(0, CORNERS - 1)) {
                return false;
            }
            int a = number;
            if (!takeNumber(0, CORNERS - 1) || number == a || land.hasWay(a, number)) {
                return false;
            }
            land.setWay(a, number, true);
            return takeStop();
        }

        private boolean takeOne() {
            if (land.starts.isFull() || !takeNumber(0, CORNERS - 1)) {
                return false;
            }
            int start = number;
            if (!takeNumber(0, CORNERS - 1)) {
                return false;
            }
            land.addPerson(start, number);
            return takeStop();
        }

        private boolean takeGo() {
            if (land.hours.isFull() || !takeNumber(land.lastHour(), MOST_HOUR)) {
                return false;
            }
            int hour = number;
            if (!takeNumber(0, CORNERS - 1)) {
                return false;
            }
            int from = number;
            if (!takeNumber(0, CORNERS - 1)) {
                return false;
            }
            int to = number;
            int band = takeBand();
            if (band == 0) {
                return false;
            }
            land.addGo(hour, from, to, band);
            return true;
        }

        /** The people of a go as bits, its end included; 0 if a token can not stand there. */
        private int takeBand() {
            int band = 0;
            for (int i = 0; i <= MOST_PEOPLE; i++) {
                take();
                if (token == STOP) {
                    return band;
                }
                if (token != NUMBER || !land.isPerson(number) || (band >> number & 1) == 1) {
                    return 0;
                }
                band |= 1 << number;
            }
            return 0;
        }

        private boolean takeNumber(int least, int most) {
            take();
            return token == NUMBER && isWithin(number, least, most);
        }

        private boolean takeStop() {
            take();
            return token == STOP;
        }

        /** Goes on to the next token: what it is, its place, and the place behind it. */
        private void take() {
            place = runEnd(next, BLANK, BLANK);
            next = place + 1;
            if (place >= text.size()) {
                token = END;
                next = place;
            } else if (isFrom('a', 'z')) {
                next = runEnd(place, 'a', 'z');
                token = isWord(WAY_WORD) ? WAY : isWord(ONE_WORD) ? ONE : OTHER;
                token = isWord(GO_WORD) ? GO : token;
            } else if (isFrom('0', '9')) {
                next = runEnd(place, '0', '9');
                token = next - place <= 2 ? NUMBER : OTHER;
                number = value();
            } else {
                token = isFrom(';', ';') ? STOP : OTHER;
            }
        }

        private boolean isFrom(int least, int most) {
            return isWithin(text.get(place), least, most);
        }

        private int runEnd(int begin, int least, int most) {
            for (int i = begin; i < text.size(); i++) {
                if (!isWithin(text.get(i), least, most)) {
                    return i;
                }
            }
            return text.size();
        }

        /** Two figures at most: longer runs are no numbers, and might not go into an int. */
        private int value() {
            int v = 0;
            for (int i = place; i < next && i < place + 2; i++) {
                v = 10 * v + text.get(i) - '0';
            }
            return v;
        }

        private boolean isWord(String word) {
            if (word.length() != next - place) {
                return false;
            }
            for (int i = 0; i < word.length(); i++) {
                if (text.get(place + i) != word.charAt(i)) {
                    return false;
                }
            }
            return true;
        }
    }

    /** Goes through the day, looking for the first company that is none. */
    private static final class Judge {
        private static final int NOT_THERE = 1, NO_WAY = 2, NOT_ALLOWED = 3;

        private final Slots where = new Slots(MOST_PEOPLE);
        private final Slots since = new Slots(MOST_PEOPLE);

        /** 10 times the number of the go, and why; 0 if each company is one. */
        int firstWrong(Kept kept, int rule) {
            Land land = kept.land;
            where.copy(land.starts);
            since.empty();
            for (int person = 0; person < land.people(); person++) {
                since.add(0);
            }
            for (int go = 0; go < land.gos(); go++) {
                int why = wrong(kept, rule, go);
                if (why > 0) {
                    return 10 * go + why;
                }
                move(land, go);
            }
            return 0;
        }

        private int wrong(Kept kept, int rule, int go) {
            Land land = kept.land;
            for (int person = 0; person < land.people(); person++) {
                if (land.goes(go, person) && !isReady(land, go, person)) {
                    return NOT_THERE;
                }
            }
            if (!land.hasWay(land.froms.get(go), land.tos.get(go))) {
                return NO_WAY;
            }
            int size = Integer.bitCount(land.bands.get(go));
            return kept.fits(rule, size) ? 0 : NOT_ALLOWED;
        }

        private boolean isReady(Land land, int go, int person) {
            boolean isThere = where.get(person) == land.froms.get(go);
            return isThere && since.get(person) <= land.hours.get(go);
        }

        private void move(Land land, int go) {
            for (int person = 0; person < land.people(); person++) {
                if (land.goes(go, person)) {
                    where.set(person, land.tos.get(go));
                    since.set(person, land.hours.get(go) + 1);
                }
            }
        }

        boolean allHome(Land land) {
            for (int person = 0; person < land.people(); person++) {
                if (where.get(person) != land.homes.get(person)) {
                    return false;
                }
            }
            return true;
        }
    }

    /** A crowd parted into rows of sizes, none less than the one ahead. */
    private static final class Rows {
        private static final int SIDE = MOST_CROWD + 1;

        /** For each least size, then for each crowd: how many rows have no lesser size. */
        private final int[] numbers = new int[(SIDE + 1) * SIDE];
        private final int[] fewest = new int[SIDE];
        private final int[] most = new int[SIDE];
        private final boolean[] fits = new boolean[SIDE];

        void fill(Kept kept, int rule) {
            for (int n = 0; n < SIDE; n++) {
                fits[n] = kept.fits(rule, n);
                numbers[SIDE * SIDE + n] = n == 0 ? 1 : 0;
            }
            for (int least = SIDE - 1; least > 0; least--) {
                for (int n = 0; n < SIDE; n++) {
                    int with = fits[least] && n >= least ? numbers[SIDE * least + n - least] : 0;
                    numbers[SIDE * least + n] = numbers[SIDE * (least + 1) + n] + with;
                }
            }
            fillEnds();
        }

        private void fillEnds() {
            fewest[0] = 0;
            most[0] = 0;
            for (int n = 1; n < SIDE; n++) {
                fewest[n] = NONE;
                most[n] = NONE;
                for (int size = 1; size <= n; size++) {
                    if (fits[size] && fewest[n - size] != NONE) {
                        addEnd(n, n - size);
                    }
                }
            }
        }

        private void addEnd(int n, int rest) {
            if (fewest[n] == NONE || fewest[rest] + 1 < fewest[n]) {
                fewest[n] = fewest[rest] + 1;
            }
            most[n] = Math.max(most[n], most[rest] + 1);
        }

        private int numberFrom(int least, int n) {
            boolean isInside = isWithin(least, 1, SIDE) && isWithin(n, 0, SIDE - 1);
            return isInside ? numbers[SIDE * least + n] : 0;
        }

        int number(int n) {
            return numberFrom(1, n);
        }

        int fewest(int n) {
            return isWithin(n, 0, SIDE - 1) ? fewest[n] : NONE;
        }

        int most(int n) {
            return isWithin(n, 0, SIDE - 1) ? most[n] : NONE;
        }

        /** Size k of the i-th row: each size stands for as many rows as its rest has. */
        int size(int n, int i, int k) {
            if (i >= number(n)) {
                return NOT_SO;
            }
            int rest = n;
            int skip = i;
            int place = 0;
            for (int size = 1; size <= rest; size++) {
                // A size may come again and again: as long as the row that is sought has it.
                for (int again = 0; again < SIDE && has(size, rest, skip); again++) {
                    if (place == k) {
                        return size;
                    }
                    place++;
                    rest -= size;
                }
                if (size < SIDE && fits[size]) {
                    skip -= numberFrom(size, rest - size);
                }
            }
            return NOT_SO;
        }

        private boolean has(int size, int rest, int skip) {
            return size < SIDE && fits[size] && skip < numberFrom(size, rest - size);
        }
    }

    /** Ways to put a few things into sets that fit, each set told as bits. */
    private static final class Sets {
        private static final int MOST_THINGS = 8, ALL = 1 << MOST_THINGS;

        private int things;
        private final int[] sums = new int[ALL];
        private final boolean[] fits = new boolean[ALL];
        private final int[] numbers = new int[ALL];
        private final int[] fewest = new int[ALL];
        private final int[] most = new int[ALL];

        void partKnots(Kept kept, int rule) {
            addUp(kept.knots);
            for (int set = 1; set < 1 << things; set++) {
                fits[set] = kept.fits(rule, sums[set]) && isAsCounted(kept, set);
            }
            solve();
        }

        private boolean isAsCounted(Kept kept, int set) {
            for (int i = 0; i < kept.countedKnots.size(); i++) {
                boolean isIn = (set >> kept.countedKnots.get(i) & 1) == 1;
                if (isIn && sums[set] != kept.countedSizes.get(i)) {
                    return false;
                }
            }
            return true;
        }

        void partCompanies(Kept kept, int rule) {
            addUp(kept.companies);
            for (int set = 1; set < 1 << things; set++) {
                int aboard = sums[set] + kept.crew;
                fits[set] = aboard <= kept.room && kept.fits(rule, aboard);
            }
            solve();
        }

        private void addUp(Slots sizes) {
            things = Math.min(sizes.size(), MOST_THINGS);
            for (int set = 0; set < 1 << things; set++) {
                sums[set] = 0;
                for (int thing = 0; thing < things; thing++) {
                    sums[set] += (set >> thing & 1) * sizes.get(thing);
                }
            }
        }

        /** The set with the least thing is always chosen next, so that no way counts twice. */
        private void solve() {
            numbers[0] = 1;
            fewest[0] = 0;
            most[0] = 0;
            for (int all = 1; all < 1 << things; all++) {
                numbers[all] = 0;
                fewest[all] = NONE;
                most[all] = NONE;
                int least = all & -all;
                for (int set = least; set <= all; set++) {
                    if ((set & least) != 0 && (set & all) == set && fits[set]) {
                        addSet(all, all ^ set);
                    }
                }
            }
        }

        private void addSet(int all, int rest) {
            if (numbers[rest] == 0) {
                return;
            }
            numbers[all] += numbers[rest];
            if (fewest[all] == NONE || fewest[rest] + 1 < fewest[all]) {
                fewest[all] = fewest[rest] + 1;
            }
            most[all] = Math.max(most[all], most[rest] + 1);
        }

        private int all() {
            return (1 << things) - 1;
        }

        int number() {
            return numbers[all()];
        }

        int fewest() {
            return fewest[all()];
        }

        int most() {
            return most[all()];
        }

        int numberWith(int a, int b) {
            int found = 0;
            for (int set = 1; set <= all(); set++) {
                if ((set >> a & 1) == 1 && (set >> b & 1) == 1 && fits[set]) {
                    found += numbers[all() ^ set];
                }
            }
            return found;
        }

        /** The least set, with thing 0, behind which the fewest are still to be had. */
        int firstOfFewest() {
            if (things == 0) {
                return 0;
            }
            for (int set = 1; set <= all(); set += 2) {
                int rest = all() ^ set;
                if (fits[set] && numbers[rest] > 0 && fewest[rest] + 1 == fewest()) {
                    return set;
                }
            }
            return NONE;
        }
    }

    /** Goes through all states of who is where; two bits a person, person 0 in the highest. */
    private static final class Walk {
        private static final int MOST_STATES = 1 << 2 * MOST_PEOPLE;

        private int people;
        private int ways;
        private int fitting;
        private long key = NONE;
        private int soonest;
        private int never;
        private final int[] hours = new int[MOST_STATES];
        private final int[] queue = new int[MOST_STATES];
        private final int[] near = new int[MOST_STATES];
        private int nearCount;
        private final int[] choices = new int[MOST_STATES];
        private int choiceCount;
        private final int[] path = new int[MOST_STATES];
        /** Of those at one corner, where in a state they stand. */
        private final int[] group = new int[MOST_PEOPLE];
        private final int[] goers = new int[CORNERS];

        /** What was found is used again while all that it hangs on is the same. */
        void search(Kept kept, int rule) {
            people = kept.land.people();
            ways = kept.land.wayBits();
            fitting = 0;
            for (int n = 1; n <= MOST_PEOPLE; n++) {
                fitting |= kept.fits(rule, n) ? 1 << n : 0;
            }
            int start = state(kept.land.starts);
            int home = state(kept.land.homes);
            long asked = (long) ways << MOST_PEOPLE + 1 | fitting;
            asked = (asked << 3 | people) << 2 * MOST_PEOPLE | start;
            asked = asked << 2 * MOST_PEOPLE | home;
            if (asked != key) {
                key = asked;
                searchAnew(start, home);
            }
        }

        private void searchAnew(int start, int home) {
            spread(start);
            soonest = hours[home];
            findNever(home);
            if (soonest != NONE) {
                // Each step can be gone back as well: hours from home are hours to it.
                spread(home);
                findPath(start);
            }
        }

        private int shift(int person) {
            return 2 * (people - 1 - person);
        }

        private int corner(int state, int person) {
            return state >> shift(person) & 3;
        }

        private int state(Slots corners) {
            int state = 0;
            for (int person = 0; person < people; person++) {
                state = state << 2 | corners.get(person) & 3;
            }
            return state & MOST_STATES - 1;
        }

        private int stateCount() {
            return Math.min(1 << 2 * people, MOST_STATES);
        }

        /** The hours from one state to each that can be reached; NONE for the others. */
        private void spread(int from) {
            for (int state = 0; state < MOST_STATES; state++) {
                hours[state] = NONE;
            }
            hours[from] = 0;
            queue[0] = from;
            int found = 1;
            for (int i = 0; i < MOST_STATES && i < found && found < stateCount(); i++) {
                findNear(queue[i]);
                for (int j = 0; j < nearCount; j++) {
                    int state = near[j];
                    if (hours[state] == NONE && found < MOST_STATES) {
                        hours[state] = hours[queue[i]] + 1;
                        queue[found] = state;
                        found++;
                    }
                }
            }
        }

        private void findNever(int home) {
            never = (1 << people) - 1;
            for (int state = 0; state < stateCount(); state++) {
                for (int person = 0; person < people && hours[state] != NONE; person++) {
                    if (corner(state, person) == corner(home, person)) {
                        never &= ~(1 << person);
                    }
                }
            }
        }

        private void findPath(int start) {
            path[0] = start;
            for (int hour = 1; hour <= soonest && hour < MOST_STATES; hour++) {
                findNear(path[hour - 1]);
                int first = MOST_STATES - 1;
                for (int i = 0; i < nearCount; i++) {
                    if (hours[near[i]] == soonest - hour) {
                        first = Math.min(first, near[i]);
                    }
                }
                path[hour] = first;
            }
        }

        int cornerBehind(int hour, int person) {
            return isWithin(hour, 0, MOST_STATES - 1) ? corner(path[hour], person) : NONE;
        }

        /** Those at one corner go apart from those at another: what each can do is multiplied. */
        private void findNear(int state) {
            near[0] = 0;
            nearCount = 1;
            for (int corner = 0; corner < CORNERS; corner++) {
                findChoices(corner, gather(state, corner));
                multiply();
            }
        }

        private int gather(int state, int corner) {
            int size = 0;
            for (int person = 0; person < people; person++) {
                int shift = shift(person);
                if ((state >> shift & 3) == corner && size < MOST_PEOPLE) {
                    group[size] = shift;
                    size++;
                }
            }
            return size;
        }

        private void findChoices(int corner, int size) {
            choiceCount = 0;
            for (int choice = 0; choice < 1 << 2 * size; choice++) {
                int part = chosen(choice, corner, size);
                if (part != NONE && choiceCount < MOST_STATES) {
                    choices[choiceCount] = part;
                    choiceCount++;
                }
            }
        }

        /** Where the group is behind the hour, as its part of a state; NONE if it can not be. */
        private int chosen(int choice, int corner, int size) {
            for (int to = 0; to < CORNERS; to++) {
                goers[to] = 0;
            }
            int part = 0;
            for (int i = 0; i < size; i++) {
                int to = choice >> 2 * i & 3;
                goers[to]++;
                part |= to << group[i];
            }
            for (int to = 0; to < CORNERS; to++) {
                boolean isWay = (ways >> CORNERS * corner + to & 1) == 1;
                boolean canGo = isWay && (fitting >> goers[to] & 1) == 1;
                if (to != corner && goers[to] > 0 && !canGo) {
                    return NONE;
                }
            }
            return part;
        }

        /** From the last choice down, so that what is multiplied is written over at the end. */
        private void multiply() {
            for (int c = choiceCount - 1; c >= 0; c--) {
                for (int i = 0; i < nearCount; i++) {
                    int place = nearCount * c + i;
                    if (place < MOST_STATES) {
                        near[place] = near[i] | choices[c];
                    }
                }
            }
            nearCount = Math.min(nearCount * choiceCount, MOST_STATES);
        }
    }

    /** Tables that fill up: a state is how many sit at each, each told by its place in sizes. */
    private static final class Seats {
        private static final int SIDE = MOST_SEATS + 1, STATES = SIDE * SIDE * SIDE, FAR = 1000000;

        private final int[] sizes = new int[SIDE];
        private int first;
        private int second;
        private int third;
        private int states;
        private final int[] seated = new int[STATES];
        private final int[] stood = new int[STATES];

        /** A table that is not there is one at which nobody can sit. */
        void lay(Kept kept, int rule, int t, int s) {
            first = 1;
            for (int n = 1; n <= s && first < SIDE; n++) {
                if (kept.fits(rule, n)) {
                    sizes[first] = n;
                    first++;
                }
            }
            second = t > 1 ? first : 1;
            third = t > 2 ? first : 1;
            states = 0;
            for (int i = 0; i < first; i++) {
                for (int j = 0; j < second; j++) {
                    for (int k = 0; k < third && states < STATES; k++) {
                        seated[states] = sizes[i] + sizes[j] + sizes[k];
                        states++;
                    }
                }
            }
        }

        int fewestStood(int n) {
            for (int state = 0; state < states; state++) {
                stood[state] = state == 0 ? 0 : FAR;
            }
            for (int guests = 1; guests <= n; guests++) {
                sitDown();
                countStanding(guests);
            }
            int fewest = FAR;
            for (int state = 0; state < states; state++) {
                fewest = Math.min(fewest, stood[state]);
            }
            return fewest;
        }

        /** Each state becomes the best of all with no more at any table, itself among them. */
        private void sitDown() {
            int state = 0;
            for (int i = 0; i < first; i++) {
                for (int j = 0; j < second; j++) {
                    for (int k = 0; k < third; k++) {
                        improve(state, i > 0 ? state - second * third : state);
                        improve(state, j > 0 ? state - third : state);
                        improve(state, k > 0 ? state - 1 : state);
                        state++;
                    }
                }
            }
        }

        private void improve(int state, int ahead) {
            if (ahead >= 0 && state < STATES && stood[ahead] < stood[state]) {
                stood[state] = stood[ahead];
            }
        }

        private void countStanding(int guests) {
            for (int state = 0; state < states; state++) {
                int standing = guests - seated[state];
                stood[state] = standing < 0 ? FAR : stood[state] + standing;
            }
        }

        int fewestLeft(int n) {
            int fewest = n;
            for (int state = 0; state < states; state++) {
                int left = n - seated[state];
                fewest = left >= 0 ? Math.min(fewest, left) : fewest;
            }
            return fewest;
        }
    }
}
