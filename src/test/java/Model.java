import java.util.ArrayList;
import java.util.Arrays;
import java.util.Comparator;
import java.util.HashMap;
import java.util.HashSet;
import java.util.List;
import java.util.Map;
import java.util.Set;
import java.util.TreeSet;
import java.util.regex.Matcher;
import java.util.regex.Pattern;

/**
 * The document once more, in the most naive way that one can think of and with nothing of the
 * program in it: all rows, all partings, all states are written out and looked through.
 */
final class Model {
    private static final class Go {
        final int hour, a, b;
        final List<Integer> people;

        Go(int hour, int a, int b, List<Integer> people) {
            this.hour = hour;
            this.a = a;
            this.b = b;
            this.people = new ArrayList<>(people);
        }
    }

    private static final class Land {
        final Set<Integer> told = new TreeSet<>(List.of(2, 3));
        final Set<Set<Integer>> ways = new HashSet<>();
        final List<int[]> people = new ArrayList<>();
        final List<Go> gos = new ArrayList<>();
        final List<Integer> text = new ArrayList<>();
        final List<Integer> knots = new ArrayList<>();
        final List<int[]> counted = new ArrayList<>();
        final List<Integer> companies = new ArrayList<>();
        final int[] lasts = new int[4];
        int room = 10, crew = 0;

        Land copy() {
            Land c = new Land();
            c.told.clear();
            c.told.addAll(told);
            c.ways.addAll(ways);
            c.people.addAll(people);
            c.gos.addAll(gos);
            c.text.addAll(text);
            c.knots.addAll(knots);
            c.counted.addAll(counted);
            c.companies.addAll(companies);
            System.arraycopy(lasts, 0, c.lasts, 0, 4);
            c.room = room;
            c.crew = crew;
            return c;
        }
    }

    private Land now = new Land();
    private final Land[] images = new Land[2];
    private final int[] status = new int[3];
    private long above = 0, below = 1;

    private int bad(int answer) {
        status[0]++;
        return answer;
    }

    private int no(int answer) {
        status[1]++;
        return answer;
    }

    private int full() {
        status[2]++;
        return -4;
    }

    private static boolean in(long v, long least, long most) {
        return v >= least && v <= most;
    }

    private boolean fits(int rule, int n) {
        List<Integer> divisors = new ArrayList<>();
        for (int d = 1; d <= n; d++) {
            if (n % d == 0) {
                divisors.add(d);
            }
        }
        if (rule == 0) {
            return divisors.size() == 2;
        }
        if (rule == 1) {
            return divisors.size() % 2 == 1;
        }
        return rule == 2 ? divisors.contains(2) : now.told.contains(n);
    }

    int told(int set) {
        if (!in(set, 0, 1048575)) {
            return bad(-2);
        }
        int was = toldBits();
        now.told.clear();
        for (int n = 1; n <= 20; n++) {
            if ((set & 1 << (n - 1)) != 0) {
                now.told.add(n);
            }
        }
        return was;
    }

    private int toldBits() {
        int bits = 0;
        for (int n : now.told) {
            bits += 1 << (n - 1);
        }
        return bits;
    }

    int allowed(int rule, int n) {
        return in(rule, 0, 3) && in(n, 1, 99) ? fits(rule, n) ? 1 : 0 : bad(-2);
    }

    int way(int a, int b, boolean is) {
        if (!in(a, 0, 3) || !in(b, 0, 3) || a == b) {
            return bad(-2);
        }
        Set<Integer> both = Set.of(a, b);
        boolean changed = is ? now.ways.add(both) : now.ways.remove(both);
        return changed ? 1 : no(-3);
    }

    int one(int start, int home) {
        if (!in(start, 0, 3) || !in(home, 0, 3)) {
            return bad(-2);
        }
        if (now.people.size() == 5) {
            return full();
        }
        now.people.add(new int[] {start, home});
        return now.people.size() - 1;
    }

    int type(long v, int n) {
        if (!in(n, 1, 8)) {
            return bad(-2);
        }
        if (now.text.size() + n > 200) {
            return full();
        }
        List<Integer> bytes = new ArrayList<>();
        long rest = v;
        for (int i = 0; i < n; i++) {
            bytes.add(0, (int) Math.floorMod(rest, 256L));
            rest = Math.floorDiv(rest, 256L);
        }
        now.text.addAll(bytes);
        return now.text.size();
    }

    int clear() {
        int had = now.text.size();
        now.text.clear();
        return had;
    }

    /** The tokens of the text, each with its place; the last one is the end. */
    private List<String> tokens(List<Integer> places) {
        StringBuilder text = new StringBuilder();
        for (int b : now.text) {
            text.append((char) b);
        }
        List<String> tokens = new ArrayList<>();
        Matcher m = Pattern.compile("[a-z]+|[0-9]+|[^ ]", Pattern.DOTALL).matcher(text);
        while (m.find()) {
            tokens.add(m.group());
            places.add(m.start());
        }
        tokens.add("");
        places.add(text.length());
        return tokens;
    }

    private static int number(String token, int least, int most) {
        if (!token.matches("[0-9][0-9]?")) {
            return -1;
        }
        int v = Integer.parseInt(token);
        return in(v, least, most) ? v : -1;
    }

    int read() {
        List<Integer> places = new ArrayList<>();
        List<String> tokens = tokens(places);
        Land land = new Land();
        int t = 0;
        while (!tokens.get(t).isEmpty()) {
            int behind = item(tokens, t, land);
            if (behind < 0) {
                return -10 - places.get(-behind - 1);
            }
            t = behind;
        }
        now.ways.clear();
        now.ways.addAll(land.ways);
        now.people.clear();
        now.people.addAll(land.people);
        now.gos.clear();
        now.gos.addAll(land.gos);
        return now.gos.size();
    }

    /** The token behind the item; less than 0: -1 less the token that can not stand there. */
    private static int item(List<String> tokens, int t, Land land) {
        String word = tokens.get(t);
        boolean isFull = word.equals("one") && land.people.size() == 5
            || word.equals("go") && land.gos.size() == 24;
        if (isFull || !List.of("way", "one", "go").contains(word)) {
            return -1 - t;
        }
        List<Integer> numbers = new ArrayList<>();
        List<Integer> people = new ArrayList<>();
        int corners = word.equals("go") ? 3 : 2;
        for (int i = t + 1; i < tokens.size(); i++) {
            String token = tokens.get(i);
            int have = numbers.size();
            int v;
            if (have < corners) {
                int hour = land.gos.isEmpty() ? 0 : land.gos.get(land.gos.size() - 1).hour;
                boolean isHour = corners == 3 && have == 0;
                v = isHour ? number(token, hour, 23) : number(token, 0, 3);
                if (word.equals("way") && have == 1
                    && (v == numbers.get(0) || land.ways.contains(Set.of(numbers.get(0), v)))) {
                    v = -1;
                }
            } else if (corners == 2 || token.equals(";")) {
                if (!token.equals(";") || corners == 3 && people.isEmpty()) {
                    return -1 - i;
                }
                add(word, numbers, people, land);
                return i + 1;
            } else {
                v = number(token, 0, land.people.size() - 1);
                if (people.contains(v)) {
                    v = -1;
                }
                people.add(v);
            }
            if (v < 0) {
                return -1 - i;
            }
            numbers.add(v);
        }
        throw new IllegalStateException("the end can stand nowhere in an item");
    }

    private static void add(String word, List<Integer> n, List<Integer> people, Land land) {
        if (word.equals("way")) {
            land.ways.add(Set.of(n.get(0), n.get(1)));
        } else if (word.equals("one")) {
            land.people.add(new int[] {n.get(0), n.get(1)});
        } else {
            land.gos.add(new Go(n.get(0), n.get(1), n.get(2), people));
        }
    }

    int judged(int rule) {
        if (!in(rule, 0, 3)) {
            return bad(-10);
        }
        // where[p][h]: the corner at which p is at the beginning of hour h; -1: nowhere yet.
        int[][] where = new int[now.people.size()][26];
        for (int p = 0; p < where.length; p++) {
            Arrays.fill(where[p], now.people.get(p)[0]);
        }
        for (int g = 0; g < now.gos.size(); g++) {
            Go go = now.gos.get(g);
            for (int p : go.people) {
                // One who has left in this hour is nowhere in it any more.
                if (where[p][go.hour] != go.a) {
                    return 10 * g + 1;
                }
            }
            if (go.a == go.b || !now.ways.contains(Set.of(go.a, go.b))) {
                return 10 * g + 2;
            }
            if (!fits(rule, go.people.size())) {
                return 10 * g + 3;
            }
            for (int p : go.people) {
                Arrays.fill(where[p], go.hour, 26, go.b);
                where[p][go.hour] = -1;
            }
        }
        for (int p = 0; p < where.length; p++) {
            if (where[p][25] != now.people.get(p)[1]) {
                return -5;
            }
        }
        return -1;
    }

    int ends(int person) {
        if (!in(person, 0, now.people.size() - 1)) {
            return bad(-2);
        }
        int end = now.people.get(person)[0];
        for (Go go : now.gos) {
            if (go.people.contains(person)) {
                end = go.b;
            }
        }
        return end;
    }

    /** All rows, in their order. */
    private List<List<Integer>> rows(int rule, int n, int least) {
        List<List<Integer>> all = new ArrayList<>();
        if (n == 0) {
            all.add(new ArrayList<>());
        }
        for (int size = least; size <= n; size++) {
            if (fits(rule, size)) {
                for (List<Integer> rest : rows(rule, n - size, size)) {
                    List<Integer> row = new ArrayList<>(List.of(size));
                    row.addAll(rest);
                    all.add(row);
                }
            }
        }
        return all;
    }

    private static int choose(List<Integer> lengths, int what) {
        if (what == 0) {
            return lengths.size();
        }
        Comparator<Integer> order = Comparator.naturalOrder();
        return lengths.stream().min(what == 1 ? order : order.reversed()).orElse(-1);
    }

    int parted(int rule, int n, int what) {
        if (!in(rule, 0, 3) || !in(n, 0, 30) || !in(what, 0, 2)) {
            return bad(-10);
        }
        return choose(rows(rule, n, 1).stream().map(List::size).toList(), what);
    }

    int row(int rule, int n, int i, int k) {
        if (!in(rule, 0, 3) || !in(n, 0, 30) || i < 0 || k < 0) {
            return bad(-10);
        }
        List<List<Integer>> rows = rows(rule, n, 1);
        return i < rows.size() && k < rows.get(i).size() ? rows.get(i).get(k) : -5;
    }

    int knot(int people) {
        if (!in(people, 1, 9)) {
            return bad(-2);
        }
        if (now.knots.size() == 8) {
            return full();
        }
        now.knots.add(people);
        return now.knots.size() - 1;
    }

    int untie() {
        int were = now.knots.size();
        now.knots.clear();
        now.counted.clear();
        return were;
    }

    int counted(int knot, int s) {
        if (!in(knot, 0, now.knots.size() - 1) || !in(s, 1, 72)) {
            return bad(-2);
        }
        if (now.counted.size() == 4) {
            return full();
        }
        now.counted.add(new int[] {knot, s});
        return now.counted.size();
    }

    /** All ways to put things into sets: for each thing, the number of its set. */
    private static List<int[]> groupings(int things) {
        List<int[]> all = new ArrayList<>();
        group(new int[things], 0, 0, all);
        return all;
    }

    private static void group(int[] set, int thing, int sets, List<int[]> all) {
        if (thing == set.length) {
            all.add(set.clone());
            return;
        }
        for (int s = 0; s <= sets; s++) {
            set[thing] = s;
            group(set, thing + 1, Math.max(sets, s + 1), all);
        }
    }

    private static int[] sums(int[] set, List<Integer> sizes) {
        int[] sums = new int[Arrays.stream(set).max().orElse(-1) + 1];
        for (int i = 0; i < set.length; i++) {
            sums[set[i]] += sizes.get(i);
        }
        return sums;
    }

    private List<int[]> allPartings(int rule) {
        List<int[]> all = new ArrayList<>();
        for (int[] set : groupings(now.knots.size())) {
            int[] sums = sums(set, now.knots);
            boolean is = Arrays.stream(sums).allMatch(sum -> fits(rule, sum));
            for (int[] c : now.counted) {
                is &= sums[set[c[0]]] == c[1];
            }
            if (is) {
                all.add(set);
            }
        }
        return all;
    }

    int partings(int rule, int what) {
        if (!in(rule, 0, 3) || !in(what, 0, 2)) {
            return bad(-10);
        }
        List<Integer> lengths = new ArrayList<>();
        for (int[] set : allPartings(rule)) {
            lengths.add(sums(set, now.knots).length);
        }
        return choose(lengths, what);
    }

    int together(int rule, int a, int b) {
        int last = now.knots.size() - 1;
        if (!in(rule, 0, 3) || !in(a, 0, last) || !in(b, 0, last) || a == b) {
            return bad(-2);
        }
        List<int[]> all = allPartings(rule);
        if (all.isEmpty()) {
            return no(-3);
        }
        above = all.stream().filter(set -> set[a] == set[b]).count();
        below = all.size();
        for (long d = below; d > 1; d--) {
            if (above % d == 0 && below % d == 0) {
                above /= d;
                below /= d;
            }
        }
        return 1;
    }

    private boolean canBeNext(int rule, List<Integer> from, List<Integer> to) {
        Map<List<Integer>, Integer> companies = new HashMap<>();
        for (int p = 0; p < from.size(); p++) {
            if (!from.get(p).equals(to.get(p))) {
                companies.merge(List.of(from.get(p), to.get(p)), 1, Integer::sum);
            }
        }
        for (Map.Entry<List<Integer>, Integer> e : companies.entrySet()) {
            if (!now.ways.contains(new HashSet<>(e.getKey())) || !fits(rule, e.getValue())) {
                return false;
            }
        }
        return true;
    }

    private static List<List<Integer>> states(int people) {
        List<List<Integer>> all = new ArrayList<>();
        all.add(List.of());
        for (int p = 0; p < people; p++) {
            List<List<Integer>> longer = new ArrayList<>();
            for (List<Integer> state : all) {
                for (int corner = 0; corner < 4; corner++) {
                    List<Integer> s = new ArrayList<>(state);
                    s.add(corner);
                    longer.add(s);
                }
            }
            all = longer;
        }
        return all;
    }

    private List<Integer> column(int i) {
        return now.people.stream().map(p -> p[i]).toList();
    }

    /** Hours from the start to each state that can be reached. */
    private Map<List<Integer>, Integer> reached(int rule) {
        List<List<Integer>> states = states(now.people.size());
        Map<List<Integer>, Integer> hours = new HashMap<>();
        hours.put(column(0), 0);
        List<List<Integer>> edge = List.of(column(0));
        for (int hour = 1; !edge.isEmpty(); hour++) {
            List<List<Integer>> found = new ArrayList<>();
            for (List<Integer> to : states) {
                if (!hours.containsKey(to)
                    && edge.stream().anyMatch(from -> canBeNext(rule, from, to))) {
                    found.add(to);
                }
            }
            for (List<Integer> to : found) {
                hours.put(to, hour);
            }
            edge = found;
        }
        return hours;
    }

    int soonest(int rule) {
        return in(rule, 0, 3) ? reached(rule).getOrDefault(column(1), -1) : bad(-2);
    }

    int at(int rule, int hour, int person) {
        if (!in(rule, 0, 3) || hour < 0 || !in(person, 0, now.people.size() - 1)) {
            return bad(-10);
        }
        Map<List<Integer>, Integer> hours = reached(rule);
        if (!hours.containsKey(column(1))) {
            return no(-20);
        }
        int end = hours.get(column(1));
        return hour > end ? -5 : firstRow(rule, hours, end).get(hour).get(person);
    }

    /** Marks from the end which states are on a soonest row, then goes by the first of them. */
    private List<List<Integer>> firstRow(int rule, Map<List<Integer>, Integer> hours, int end) {
        List<List<Integer>> states = states(now.people.size());
        List<Set<List<Integer>>> good = new ArrayList<>();
        for (int hour = 0; hour <= end; hour++) {
            good.add(new HashSet<>());
        }
        good.get(end).add(column(1));
        for (int hour = end - 1; hour >= 0; hour--) {
            for (List<Integer> s : states) {
                if (hours.getOrDefault(s, -1) == hour
                    && good.get(hour + 1).stream().anyMatch(to -> canBeNext(rule, s, to))) {
                    good.get(hour).add(s);
                }
            }
        }
        List<List<Integer>> row = new ArrayList<>(List.of(column(0)));
        for (int hour = 1; hour <= end; hour++) {
            for (List<Integer> s : states) {
                if (good.get(hour).contains(s) && canBeNext(rule, row.get(hour - 1), s)) {
                    row.add(s);
                    break;
                }
            }
        }
        return row;
    }

    int never(int rule) {
        if (!in(rule, 0, 3)) {
            return bad(-2);
        }
        int bits = 0;
        Set<List<Integer>> reached = reached(rule).keySet();
        for (int p = 0; p < now.people.size(); p++) {
            int person = p;
            if (reached.stream().noneMatch(s -> s.get(person) == now.people.get(person)[1])) {
                bits += 1 << p;
            }
        }
        return bits;
    }

    int hired(int rule, boolean back) {
        if (!in(rule, 0, 3)) {
            return bad(-2);
        }
        for (int k = 0; k <= 40; k++) {
            if (fits(rule, k + 1) && (!back || k == 0 || fits(rule, k))) {
                return k;
            }
        }
        return -1;
    }

    int last(int corner, int n) {
        if (!in(corner, 0, 3) || !in(n, 0, 99)) {
            return bad(-2);
        }
        int was = now.lasts[corner];
        now.lasts[corner] = n;
        return was;
    }

    int still(int rule) {
        if (!in(rule, 0, 3)) {
            return bad(-2);
        }
        int bits = 0;
        for (int c = 0; c < 4; c++) {
            int corner = c;
            long there = now.people.stream().filter(p -> p[0] == corner).count();
            boolean canLeave = false;
            for (Set<Integer> way : now.ways) {
                for (int n = 1; n <= there; n++) {
                    canLeave |= way.contains(c) && fits(rule, n) && now.lasts[c] != n;
                }
            }
            bits += there > 0 && !canLeave ? 1 << c : 0;
        }
        return bits;
    }

    int tables(int rule, int t, int s, int n, int what) {
        boolean isTold = in(rule, 0, 3) && in(t, 1, 3) && in(s, 1, 12) && in(n, 0, 24);
        if (!isTold || !in(what, 0, 1)) {
            return bad(-2);
        }
        return sit(rule, s, n, what, 1, new int[t], new HashMap<>());
    }

    /** The least that is to be had from this guest on, with so many at each table ahead of it. */
    private int sit(int rule, int s, int n, int what, int guest, int[] at,
        Map<String, Integer> known) {
        int seated = Arrays.stream(at).sum();
        if (guest > n) {
            return what == 1 ? n - seated : 0;
        }
        int[] sorted = at.clone();
        Arrays.sort(sorted);
        String key = guest + Arrays.toString(sorted);
        if (!known.containsKey(key)) {
            List<int[]> choices = new ArrayList<>(List.of(sorted));
            for (int i = 0; i < at.length; i++) {
                List<int[]> more = new ArrayList<>();
                for (int[] c : choices) {
                    for (int v = c[i]; v <= s; v++) {
                        if (v == c[i] || fits(rule, v)) {
                            int[] d = c.clone();
                            d[i] = v;
                            more.add(d);
                        }
                    }
                }
                choices = more;
            }
            int best = Integer.MAX_VALUE;
            for (int[] c : choices) {
                int standing = guest - Arrays.stream(c).sum();
                if (standing >= 0) {
                    int rest = sit(rule, s, n, what, guest + 1, c, known);
                    best = Math.min(best, rest + (what == 0 ? standing : 0));
                }
            }
            known.put(key, best);
        }
        return known.get(key);
    }

    int company(int n) {
        if (!in(n, 1, 20)) {
            return bad(-2);
        }
        if (now.companies.size() == 8) {
            return full();
        }
        now.companies.add(n);
        return now.companies.size() - 1;
    }

    int disperse() {
        int were = now.companies.size();
        now.companies.clear();
        return were;
    }

    int put(int what, int v) {
        if (!in(what, 0, 1) || what == 0 && !in(v, 1, 60) || what == 1 && !in(v, 0, 3)) {
            return bad(-2);
        }
        int was = what == 0 ? now.room : now.crew;
        if (what == 0) {
            now.room = v;
        } else {
            now.crew = v;
        }
        return was;
    }

    int ferry(int rule, int what) {
        if (!in(rule, 0, 3) || !in(what, 0, 1)) {
            return bad(-2);
        }
        int fewest = -1;
        List<Integer> firstRow = List.of(0);
        for (int[] set : groupings(now.companies.size())) {
            int[] sums = sums(set, now.companies);
            boolean is = Arrays.stream(sums)
                .allMatch(sum -> sum + now.crew <= now.room && fits(rule, sum + now.crew));
            // Sets are numbered by their least thing, so this is the row of trips by least left.
            List<Integer> row = new ArrayList<>();
            for (int trip = 0; trip < sums.length; trip++) {
                int bits = 0;
                for (int i = 0; i < set.length; i++) {
                    bits += set[i] == trip ? 1 << i : 0;
                }
                row.add(bits);
            }
            if (is && (fewest < 0 || row.size() < fewest
                || row.size() == fewest && isAhead(row, firstRow))) {
                fewest = row.size();
                firstRow = row;
            }
        }
        if (what == 0 || fewest < 0) {
            return fewest;
        }
        return fewest == 0 ? 0 : firstRow.get(0);
    }

    private static boolean isAhead(List<Integer> row, List<Integer> other) {
        for (int i = 0; i < row.size(); i++) {
            if (!row.get(i).equals(other.get(i))) {
                return row.get(i) < other.get(i);
            }
        }
        return false;
    }

    int part(int what) {
        return in(what, 0, 1) ? (int) (what == 0 ? above : below) : bad(-2);
    }

    int image(int i) {
        if (!in(i, 0, 1)) {
            return bad(-2);
        }
        images[i] = now.copy();
        return 1;
    }

    int from(int i) {
        if (!in(i, 0, 1)) {
            return bad(-2);
        }
        if (images[i] == null) {
            return no(-3);
        }
        now = images[i].copy();
        return 1;
    }

    int status(int what) {
        return in(what, 0, 2) ? status[what] : bad(-1);
    }

    int count(int what) {
        return in(what, 0, 6) ? counts()[what] : bad(-2);
    }

    private int[] counts() {
        return new int[] {now.ways.size(), now.people.size(), now.gos.size(), now.text.size(),
            now.knots.size(), now.counted.size(), now.companies.size()};
    }

    long digest() {
        List<Long> all = new ArrayList<>();
        for (int c : counts()) {
            all.add((long) c);
        }
        all.add((long) toldBits());
        for (int a = 1; a < 4; a++) {
            for (int b = 0; b < a; b++) {
                all.add(now.ways.contains(Set.of(a, b)) ? 1L : 0L);
            }
        }
        now.people.forEach(p -> all.addAll(List.of((long) p[0], (long) p[1])));
        for (Go go : now.gos) {
            long bits = go.people.stream().mapToLong(p -> 1L << p).sum();
            all.addAll(List.of((long) go.hour, (long) go.a, (long) go.b, bits));
        }
        now.text.forEach(b -> all.add((long) b));
        now.knots.forEach(k -> all.add((long) k));
        now.counted.forEach(c -> all.addAll(List.of((long) c[0], (long) c[1])));
        for (int last : now.lasts) {
            all.add((long) last);
        }
        now.companies.forEach(c -> all.add((long) c));
        all.addAll(List.of((long) now.room, (long) now.crew, above, below));
        long h = 619;
        for (long v : all) {
            h = h * 31 + v;
        }
        return h;
    }
}
