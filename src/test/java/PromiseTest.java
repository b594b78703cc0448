import java.util.function.IntSupplier;

/** Each promise by itself: ordinary inputs, the edges that the document names, wrong inputs. */
public final class PromiseTest {
    private static final int PRIMES = 0, SQUARES = 1, EVEN = 2, TOLD = 3;
    private static final int BAD = 0, NO = 1, FULL = 2;
    private static final int LOW = Integer.MIN_VALUE, HIGH = Integer.MAX_VALUE;

    private static OnlyPrimes x = new OnlyPrimes();
    private static int promise;

    private PromiseTest() {
    }

    public static void main(String[] args) {
        newObject();
        rules();
        ways();
        people();
        bytes();
        read();
        faults();
        judged();
        ends();
        parted();
        row();
        knots();
        partings();
        together();
        soonest();
        soonestWithCompanies();
        at();
        never();
        hired();
        still();
        tables();
        ferry();
        ferryRules();
        part();
        images();
        status();
        count();
        digest();
        Check.end();
    }

    private static void fresh(int number) {
        x = new OnlyPrimes();
        promise = number;
    }

    private static void due(String call, long got, long want) {
        Check.due("promise " + promise + ": " + call, got, want);
    }

    /** A refused call answers as told, counts once in STATUS, and changes nothing else. */
    private static void refused(String call, int want, int reason, IntSupplier calls) {
        long digest = x.digest();
        int[] had = {x.status(0), x.status(1), x.status(2)};
        due(call, calls.getAsInt(), want);
        due("digest behind " + call, x.digest(), digest);
        for (int what = 0; what < 3; what++) {
            due("status " + what + " behind " + call, x.status(what), had[what] + (what == reason ? 1 : 0));
        }
    }

    /** An answer below 0 that is no refusal. */
    private static void notSo(String call, int want, IntSupplier calls) {
        refused(call, want, -1, calls);
    }

    private static int type(String text) {
        int bytes = x.count(3);
        for (int i = 0; i < text.length(); i += 8) {
            int end = Math.min(i + 8, text.length());
            long v = 0;
            for (int j = i; j < end; j++) {
                v = v << 8 | text.charAt(j);
            }
            bytes = x.type(v, end - i);
        }
        return bytes;
    }

    private static int read(String text) {
        x.clear();
        type(text);
        return x.read();
    }

    private static void land(String text) {
        due("read " + text, read(text), 0);
    }

    private static void newObject() {
        fresh(1);
        for (int what = 0; what < 7; what++) {
            due("count(" + what + ")", x.count(what), 0);
        }
        for (int what = 0; what < 3; what++) {
            due("status(" + what + ")", x.status(what), 0);
        }
        due("told", x.told(6), 6);
        due("room", x.put(0, 10), 10);
        due("crew", x.put(1, 0), 0);
        due("above", x.part(0), 0);
        due("below", x.part(1), 1);
        for (int corner = 0; corner < 4; corner++) {
            due("last(" + corner + ")", x.last(corner, 0), 0);
            for (int b = 0; b < corner; b++) {
                int a = corner;
                int to = b;
                refused("way", -3, NO, () -> x.way(a, to, false));
            }
        }
        refused("from(0)", -3, NO, () -> x.from(0));
        refused("from(1)", -3, NO, () -> x.from(1));
        due("read", x.read(), 0);
        due("judged", x.judged(PRIMES), -1);
        due("soonest", x.soonest(PRIMES), 0);
        due("never", x.never(PRIMES), 0);
        due("still", x.still(PRIMES), 0);
        due("partings", x.partings(PRIMES, 0), 1);
        due("ferry", x.ferry(PRIMES, 0), 0);
        due("NONE", OnlyPrimes.NONE, -1);
        due("BAD", OnlyPrimes.BAD, -2);
        due("NO", OnlyPrimes.NO, -3);
        due("FULL", OnlyPrimes.FULL, -4);
    }

    private static void rules() {
        fresh(2);
        due("told(0)", x.told(0), 6);
        due("told(1048575)", x.told(1048575), 0);
        due("told(5)", x.told(5), 1048575);
        for (int set : new int[] {-1, 1048576, LOW, HIGH}) {
            refused("told(" + set + ")", -2, BAD, () -> x.told(set));
        }
        due("told(6)", x.told(6), 5);
        fresh(3);
        String primes = " 2 3 5 7 11 13 17 19 23 29 31 37 41 43 47 53 59 61 67 71 73 79 83 89 97 ";
        String squares = " 1 4 9 16 25 36 49 64 81 ";
        x.told(1 | 1 << 8 | 1 << 19);
        for (int n = 1; n <= 99; n++) {
            due("allowed(0, " + n + ")", x.allowed(PRIMES, n), primes.contains(" " + n + " ") ? 1 : 0);
            due("allowed(1, " + n + ")", x.allowed(SQUARES, n), squares.contains(" " + n + " ") ? 1 : 0);
            due("allowed(2, " + n + ")", x.allowed(EVEN, n), n % 2 == 0 ? 1 : 0);
            due("allowed(3, " + n + ")", x.allowed(TOLD, n), n == 1 || n == 9 || n == 20 ? 1 : 0);
        }
        x.told(1048575);
        due("allowed(3, 20)", x.allowed(TOLD, 20), 1);
        due("allowed(3, 21)", x.allowed(TOLD, 21), 0);
        due("allowed(3, 33)", x.allowed(TOLD, 33), 0);
        for (int n : new int[] {0, -1, 100, LOW, HIGH}) {
            refused("allowed(0, " + n + ")", -2, BAD, () -> x.allowed(PRIMES, n));
        }
        for (int rule : new int[] {-1, 4, LOW, HIGH}) {
            refused("allowed(" + rule + ", 2)", -2, BAD, () -> x.allowed(rule, 2));
        }
    }

    private static void ways() {
        fresh(4);
        int ways = 0;
        for (int a = 0; a < 4; a++) {
            for (int b = 0; b < a; b++) {
                int from = a;
                int to = b;
                due("way", x.way(a, b, true), 1);
                ways++;
                due("ways", x.count(0), ways);
                refused("way again", -3, NO, () -> x.way(from, to, true));
                refused("way from the other end", -3, NO, () -> x.way(to, from, true));
            }
        }
        due("no way", x.way(0, 3, false), 1);
        due("ways", x.count(0), 5);
        refused("no way again", -3, NO, () -> x.way(3, 0, false));
        due("a way again", x.way(3, 0, true), 1);
        for (int corner : new int[] {-1, 4, LOW, HIGH}) {
            refused("way(" + corner + ", 1)", -2, BAD, () -> x.way(corner, 1, true));
            refused("way(1, " + corner + ")", -2, BAD, () -> x.way(1, corner, false));
            refused("way alike", -2, BAD, () -> x.way(corner, corner, false));
        }
        for (int corner = 0; corner < 4; corner++) {
            int c = corner;
            refused("way alike", -2, BAD, () -> x.way(c, c, true));
            refused("no way alike", -2, BAD, () -> x.way(c, c, false));
        }
    }

    private static void people() {
        fresh(5);
        refused("one(-1, 0)", -2, BAD, () -> x.one(-1, 0));
        refused("one(4, 0)", -2, BAD, () -> x.one(4, 0));
        refused("one(0, -1)", -2, BAD, () -> x.one(0, -1));
        refused("one(0, 4)", -2, BAD, () -> x.one(0, 4));
        for (int i = 0; i < 5; i++) {
            due("one", x.one(i % 4, 3), i);
            due("people", x.count(1), i + 1);
            due("start", x.ends(i), i % 4);
        }
        refused("one", -4, FULL, () -> x.one(0, 0));
        refused("one(4, 0) when full", -2, BAD, () -> x.one(4, 0));
        due("start", x.ends(4), 0);
    }

    private static void bytes() {
        fresh(6);
        for (int n : new int[] {0, -1, 9, LOW, HIGH}) {
            refused("type(65, " + n + ")", -2, BAD, () -> x.type(65, n));
        }
        due("type way 1 and a byte of 0", x.type(0x1177617920312000L, 7), 7);
        due("the lowest byte alone", x.type(0x7777777777777732L, 1), 8);
        due("of a number below 0, too", x.type(-0x100000000000000L + ';', 1), 9);
        due("read", x.read(), -10 - 6);
        due("clear", x.clear(), 9);
        due("type way 1 2 ", x.type(0x7761792031203220L, 8), 8);
        due("type ;", x.type(-0x100000000000000L + ';', 1), 9);
        due("read", x.read(), 0);
        due("ways", x.count(0), 1);
        for (int bytes = 16; bytes <= 192; bytes += 8) {
            x.type(-1, 8);
        }
        due("bytes", x.count(3), 193);
        refused("type when 7 are left", -4, FULL, () -> x.type(0, 8));
        refused("type none when 7 are left", -2, BAD, () -> x.type(0, 0));
        due("type 7", x.type(0, 7), 200);
        refused("type when none is left", -4, FULL, () -> x.type(32, 1));
        refused("type 9 when none is left", -2, BAD, () -> x.type(32, 9));
        fresh(7);
        due("clear", x.clear(), 0);
        read("way 0 1;one 0 1;go 0 0 1 0;");
        due("clear", x.clear(), 27);
        due("clear", x.clear(), 0);
        due("bytes", x.count(3), 0);
        due("ways", x.count(0), 1);
        due("people", x.count(1), 1);
        due("gos", x.count(2), 1);
    }

    private static void read() {
        fresh(8);
        x.way(2, 3, true);
        x.one(2, 3);
        due("read a day", read("way 0 1;one 0 1;one 1 0;go 0 0 1 0;go 23 1 0 1 0;"), 2);
        due("ways", x.count(0), 1);
        refused("way of the old land", -3, NO, () -> x.way(2, 3, false));
        due("people", x.count(1), 2);
        due("bytes stay", x.count(3), 49);
        due("read again", x.read(), 2);
        due("a day without blanks", read("way0 1;way2 3;one0 1;go0 0 1 0;"), 1);
        due("ways", x.count(0), 2);
        due("people", x.count(1), 1);
        due("to the least corner", read("way 2 0;way 3 0;one 0 0;one 3 3;go 0 3 0 0 1;"), 1);
        due("ways", x.count(0), 2);
        due("many blanks", read("   way  00   01 ;  one  0 2 ;go 07 0 01 00;  "), 1);
        due("digits as one number", read("one 1 2;go 9 3 2 0;go 10 2 2 0;go 10 0 1 0;"), 3);
        due("five people", read("one 0 0;one 1 1;one 2 2;one 3 3;one 0 0;go 0 0 0 4 3 2 1 0;"), 1);
        StringBuilder day = new StringBuilder("one0 1;");
        for (int i = 0; i < 20; i++) {
            day.append("go0 ").append(i % 2).append(' ').append(1 - i % 2).append("0;");
        }
        due("no blank, two figures are one number", read(day.toString()), -10 - 13);
        due("people stay", x.count(1), 5);
        due("an empty day", read(""), 0);
        due("people", x.count(1), 0);
        due("gos", x.count(2), 0);
        due("ways", x.count(0), 0);
        x.way(0, 1, true);
        due("a day of blanks", read("    "), 0);
        due("ways", x.count(0), 0);
        // A go takes ten bytes at least: the text is full ahead of a 25th one.
        StringBuilder gos = new StringBuilder("one0 0;");
        for (int i = 0; i < 19; i++) {
            gos.append("go0 0 0 0;");
        }
        due("as many gos as go into a text", read(gos.toString()), 19);
        due("as many gos", x.count(2), 19);
    }

    private static void faults() {
        String[] days = {"wat 0 1;", "0", "WAY 0 1;", "0", "wayy 0 1;", "0", "bay 0 1;", "0", "wey 0 1;", "0", "o 0 1;", "0", "wa y 0 1;", "0",
            ";", "0", "0", "0", "  \t", "2", "way 0 1;\n", "8", "way", "3", "way  ", "5", "way 0", "5",
            "way 0 1", "7", "way 0 1 ", "8", "way 0 1 2;", "8", "way 0;", "5", "way ;", "4",
            "way 4 1;", "4", "way 0 4;", "6", "way 0 0;", "6", "way 0 1;way 1 0;", "14",
            "way 0 1;way 0 1;", "14", "way 0 way;", "6", "way 001 2;", "4", "way 0 1000;", "6",
            "way 0 1 111", "8", "way 0 12345678901;", "6", "way 10 1;", "4", "way one 0 1;", "4",
            "one 0 go;", "6", "one 4 0;", "4", "one 0 4;", "6", "one", "3", "one 0 0 0;", "8",
            "one 0 0;one 0 0;one 0 0;one 0 0;one 0 0;one 9", "40", "go 0 0 1 0;", "9", "go 0 0 1;", "8",
            "one 0 1;go 24 0 1 0;", "11", "one 0 1;go 99 0 1 0;", "11", "one 0 1;go 100 0 1 0;", "11",
            "one 0 1;go 5 0 1 0;go 4 1 0 0;", "22", "one 0 1;go 5 4 1 0;", "13", "one 0 1;go 5 0 4 0;", "15",
            "one 0 1;go 5 0 1;", "16", "one 0 1;go 5 0 1 1;", "17", "one 0 1;go 5 0 1 0 0;", "19",
            "one 0 1;go 5 0 1 0 1;one 0 1;", "19", "one 0 1;go 5 0 1 0", "18", "one 0 1;go 5 0 1 0 go", "19",
            "one 0 1;go", "10", "one 0 1;go -1", "11", "one 0 1;go 1 0 1 0;;", "19", "one 0 1;go;", "10",
            "go way", "3", "ways0 1;", "0", "one 0 1;go5 0 1 0;goo", "18", "way 0 1;way 2 3;way 3 2;", "22",
            "one 0 1;one 0 1;one 0 1;one 0 1;one 0 1;go 0 0 1 0 1 2 3 4 0;", "59", "\u0080", "0", "\u00ff", "0"};
        for (int i = 0; i + 1 < days.length; i += 2) {
            String day = days[i];
            fresh(8);
            x.one(0, 1);
            x.way(0, 1, true);
            type(day);
            notSo("read " + day, -10 - Integer.parseInt(days[i + 1]), () -> x.read());
        }
        due("people stay", x.count(1), 1);
        due("ways stay", x.count(0), 1);
        due("hours may be alike", read("one 0 1;go 5 0 1 0;go 5 1 0 0;"), 2);
        due("a go where no way is, to itself, too", read("one 0 1;go 5 0 0 0;"), 1);
    }

    private static void judged() {
        fresh(9);
        String land = "way 0 1;way 1 2;one 0 2;one 0 2;";
        due("read", read(land + "go 1 0 1 0 1;go 2 1 2 1 0;"), 2);
        due("all home", x.judged(PRIMES), -1);
        due("all home by even", x.judged(EVEN), -1);
        due("all home by told", x.judged(TOLD), -1);
        due("two are no square", x.judged(SQUARES), 3);
        x.told(1 << 1);
        due("told two", x.judged(TOLD), -1);
        x.told(1 << 2);
        due("told three", x.judged(TOLD), 3);
        x.way(1, 2, false);
        due("the second go has no way", x.judged(PRIMES), 12);
        due("the first is wrong ahead of it", x.judged(SQUARES), 3);
        x.way(1, 2, true);
        x.one(3, 3);
        due("one more, at home", x.judged(PRIMES), -1);
        x.one(3, 1);
        notSo("one more, not at home", -5, () -> x.judged(PRIMES));
        due("read", read("way 0 1;one 0 0;one 0 1;one 0 1;go 1 0 1 0 1;go 1 0 1 2;"), 2);
        due("squares do not allow two", x.judged(SQUARES), 3);
        due("read", read("way 0 1;one 0 0;one 0 1;go 1 0 1 0 1;"), 1);
        notSo("the first is not at home", -5, () -> x.judged(PRIMES));
        due("read", read(land + "go 1 0 1 0 1;go 1 1 2 0 1;"), 2);
        due("on the way still", x.judged(PRIMES), 11);
        due("read", read(land + "go 1 0 1 0 1;go 1 0 1 0;"), 2);
        due("left in this hour already", x.judged(PRIMES), 11);
        due("read", read(land + "go 1 0 1 0 1;go 3 1 2 0 1;"), 2);
        due("waited an hour", x.judged(PRIMES), -1);
        due("read", read(land + "go 1 0 1 0 1;"), 1);
        notSo("not at home", -5, () -> x.judged(PRIMES));
        due("read", read(land + "go 1 0 3 0;"), 1);
        due("no way ahead of not allowed", x.judged(PRIMES), 2);
        due("read", read(land + "go 1 1 3 0;"), 1);
        due("not there ahead of no way", x.judged(PRIMES), 1);
        due("read", read(land + "one 1 2;go 1 0 1 0 2;"), 1);
        due("one of two is not there", x.judged(PRIMES), 1);
        due("read", read(land + "go 1 0 0 0 1;"), 1);
        due("no way of a corner to itself", x.judged(PRIMES), 2);
        due("read", read("way 0 1;one 0 1;go 23 0 1 0;"), 1);
        due("one goes, by squares", x.judged(SQUARES), -1);
        due("one goes, by primes", x.judged(PRIMES), 3);
        due("read", read("way 0 1;one 0 1;one 1 0;go 4 0 1 0;go 4 1 0 1;"), 2);
        due("two companies in an hour", x.judged(SQUARES), -1);
        due("read", read("way 0 1;one 0 1;go 4 0 1 0;go 5 1 0 0;go 6 0 1 0;go 6 1 0 0;"), 4);
        due("the number of the go", x.judged(SQUARES), 31);
        for (int rule : new int[] {-1, 4, LOW, HIGH}) {
            refused("judged(" + rule + ")", -10, BAD, () -> x.judged(rule));
        }
    }

    private static void ends() {
        fresh(10);
        refused("ends(0)", -2, BAD, () -> x.ends(0));
        due("read", read("one 0 1;one 1 2;one 2 3;go 3 0 3 0 1;go 3 2 0 1;go 9 1 1 0;"), 3);
        due("ends(0)", x.ends(0), 1);
        due("ends(1)", x.ends(1), 0);
        due("ends(2)", x.ends(2), 2);
        due("read", read("one 0 1;one 1 2;one 2 3;go 3 0 3 0 2;go 9 1 1 0;"), 2);
        due("ends(2) of the first go", x.ends(2), 3);
        x.one(3, 0);
        due("ends(3)", x.ends(3), 3);
        for (int person : new int[] {-1, 4, 5, 32, LOW, HIGH}) {
            refused("ends(" + person + ")", -2, BAD, () -> x.ends(person));
        }
    }

    private static void parted() {
        fresh(11);
        // By primes up to 12: 0; none of 1; then as A000607 has them.
        int[] numbers = {1, 0, 1, 1, 1, 2, 2, 3, 3, 4, 5, 6, 7};
        int[] fewest = {0, -1, 1, 1, 2, 1, 2, 1, 2, 2, 2, 1, 2};
        int[] most = {0, -1, 1, 1, 2, 2, 3, 3, 4, 4, 5, 5, 6};
        for (int n = 0; n <= 12; n++) {
            due("number of " + n, x.parted(PRIMES, n, 0), numbers[n]);
            due("fewest of " + n, x.parted(PRIMES, n, 1), fewest[n]);
            due("most of " + n, x.parted(PRIMES, n, 2), most[n]);
        }
        due("squares of 12", x.parted(SQUARES, 12, 1), 3);
        due("squares of 3", x.parted(SQUARES, 3, 1), 3);
        due("primes of 30, fewest", x.parted(PRIMES, 30, 1), 2);
        due("primes of 30, most", x.parted(PRIMES, 30, 2), 15);
        due("even of 30", x.parted(EVEN, 30, 0), 176);
        due("even of 29", x.parted(EVEN, 29, 0), 0);
        notSo("even of 29, fewest", -1, () -> x.parted(EVEN, 29, 1));
        x.told(1048575);
        due("all of 20", x.parted(TOLD, 20, 0), 627);
        due("20 at most of 30", x.parted(TOLD, 30, 0), 5507);
        due("fewest of 30", x.parted(TOLD, 30, 1), 2);
        x.told(1 << 3 | 1 << 8 | 1 << 9);
        due("4 9 10 of 18", x.parted(TOLD, 18, 0), 2);
        due("fewest is no greedy one", x.parted(TOLD, 18, 1), 2);
        due("most", x.parted(TOLD, 18, 2), 3);
        for (int v : new int[] {-1, 31, LOW, HIGH}) {
            refused("parted(0, " + v + ", 0)", -10, BAD, () -> x.parted(PRIMES, v, 0));
            refused("parted(" + v + ", 3, 0)", -10, BAD, () -> x.parted(v, 3, 0));
            refused("parted(0, 3, " + v + ")", -10, BAD, () -> x.parted(PRIMES, 3, v));
        }
        refused("parted(4, 3, 0)", -10, BAD, () -> x.parted(4, 3, 0));
        refused("parted(0, 3, 3)", -10, BAD, () -> x.parted(PRIMES, 3, 3));
    }

    private static void row() {
        fresh(12);
        int[][] rows = {{2, 2, 2, 2, 2}, {2, 2, 3, 3}, {2, 3, 5}, {3, 7}, {5, 5}};
        for (int i = 0; i <= rows.length; i++) {
            for (int k = 0; k < 6; k++) {
                boolean is = i < rows.length && k < rows[i].length;
                due("row(0, 10, " + i + ", " + k + ")", x.row(PRIMES, 10, i, k), is ? rows[i][k] : -5);
            }
        }
        due("row(2, 30, 175, 0)", x.row(EVEN, 30, 175, 0), 30);
        due("row(2, 30, 176, 0)", x.row(EVEN, 30, 176, 0), -5);
        notSo("row(0, 0, 0, 0)", -5, () -> x.row(PRIMES, 0, 0, 0));
        notSo("row(0, 1, 0, 0)", -5, () -> x.row(PRIMES, 1, 0, 0));
        notSo("row of far", -5, () -> x.row(PRIMES, 10, HIGH, 0));
        notSo("size of far", -5, () -> x.row(PRIMES, 10, 0, HIGH));
        x.told(1048575);
        due("row(3, 30, 0, 29)", x.row(TOLD, 30, 0, 29), 1);
        due("row(3, 30, 0, 30)", x.row(TOLD, 30, 0, 30), -5);
        due("the last row", x.row(TOLD, 30, 5506, 1), 15);
        due("behind the last row", x.row(TOLD, 30, 5507, 0), -5);
        for (int v : new int[] {-1, LOW}) {
            refused("row(" + v + ", 3, 0, 0)", -10, BAD, () -> x.row(v, 3, 0, 0));
            refused("row(0, " + v + ", 0, 0)", -10, BAD, () -> x.row(PRIMES, v, 0, 0));
            refused("row(0, 3, " + v + ", 0)", -10, BAD, () -> x.row(PRIMES, 3, v, 0));
            refused("row(0, 3, 0, " + v + ")", -10, BAD, () -> x.row(PRIMES, 3, 0, v));
        }
        refused("row(4, 3, 0, 0)", -10, BAD, () -> x.row(4, 3, 0, 0));
        refused("row(0, 31, 0, 0)", -10, BAD, () -> x.row(PRIMES, 31, 0, 0));
    }

    private static void knots() {
        fresh(13);
        for (int people : new int[] {0, -1, 10, LOW, HIGH}) {
            refused("knot(" + people + ")", -2, BAD, () -> x.knot(people));
        }
        for (int i = 0; i < 8; i++) {
            due("knot", x.knot(1 + i), i);
        }
        refused("knot", -4, FULL, () -> x.knot(9));
        refused("knot(10) when full", -2, BAD, () -> x.knot(10));
        promise = 14;
        x.counted(0, 3);
        due("untie", x.untie(), 8);
        due("knots", x.count(4), 0);
        due("counted", x.count(5), 0);
        due("untie", x.untie(), 0);
        x.knot(5);
        x.counted(0, 5);
        due("what was counted ahead of it is gone", x.partings(PRIMES, 0), 1);
        x.untie();
        promise = 15;
        refused("counted of no knot", -2, BAD, () -> x.counted(0, 1));
        due("knot", x.knot(9), 0);
        due("knot", x.knot(9), 1);
        for (int v : new int[] {-1, 2, 7, 8, LOW, HIGH}) {
            refused("counted(" + v + ", 1)", -2, BAD, () -> x.counted(v, 1));
        }
        for (int v : new int[] {0, -1, 73, LOW, HIGH}) {
            refused("counted(1, " + v + ")", -2, BAD, () -> x.counted(1, v));
        }
        due("counted(0, 1)", x.counted(0, 1), 1);
        due("counted(1, 72)", x.counted(1, 72), 2);
        due("counted(1, 72)", x.counted(1, 72), 3);
        due("counted(0, 9)", x.counted(0, 9), 4);
        refused("counted(0, 9)", -4, FULL, () -> x.counted(0, 9));
        refused("counted(0, 73) when full", -2, BAD, () -> x.counted(0, 73));
        due("counted", x.count(5), 4);
    }

    private static void partings() {
        fresh(16);
        due("none", x.partings(PRIMES, 0), 1);
        due("none, fewest", x.partings(PRIMES, 1), 0);
        due("none, most", x.partings(PRIMES, 2), 0);
        x.knot(1);
        due("one", x.partings(PRIMES, 0), 0);
        notSo("one, fewest", -1, () -> x.partings(PRIMES, 1));
        notSo("one, most", -1, () -> x.partings(PRIMES, 2));
        x.knot(1);
        x.knot(2);
        x.knot(2);
        // 1 1 2 2: {0 1}{2}{3}; {0 2}{1 3}; {0 3}{1 2}; {0 1}{2 3} has 4; {0 1 2} has 4; {0 2 3}{1} has 1.
        due("1 1 2 2", x.partings(PRIMES, 0), 3);
        due("fewest", x.partings(PRIMES, 1), 2);
        due("most", x.partings(PRIMES, 2), 3);
        due("all with all ways by told", x.told(1048575), 6);
        due("all ways of four", x.partings(TOLD, 0), 15);
        due("fewest", x.partings(TOLD, 1), 1);
        due("most", x.partings(TOLD, 2), 4);
        x.counted(0, 3);
        due("0 was in a company of 3", x.partings(PRIMES, 0), 2);
        x.counted(2, 3);
        due("2 was in one of 3", x.partings(PRIMES, 0), 2);
        x.counted(3, 2);
        due("3 was in one of 2", x.partings(PRIMES, 0), 0);
        due("and by told", x.partings(TOLD, 0), 1);
        due("and by told, most", x.partings(TOLD, 2), 3);
        x.counted(3, 1);
        due("3 was in one of 1, too", x.partings(TOLD, 0), 0);
        x.untie();
        for (int i = 0; i < 8; i++) {
            x.knot(9);
        }
        due("72 are even", x.partings(EVEN, 1), 1);
        due("9 are a square", x.partings(SQUARES, 2), 8);
        due("told up to 20 alone", x.partings(TOLD, 1), 4);
        for (int v : new int[] {-1, 4, LOW, HIGH}) {
            refused("partings(" + v + ", 0)", -10, BAD, () -> x.partings(v, 0));
            refused("partings(0, " + v + ")", -10, BAD, () -> x.partings(PRIMES, v));
        }
        refused("partings(0, 3)", -10, BAD, () -> x.partings(PRIMES, 3));
    }

    private static void together() {
        fresh(17);
        x.knot(1);
        x.knot(1);
        refused("alike", -2, BAD, () -> x.together(PRIMES, 1, 1));
        for (int v : new int[] {-1, 2, 8, LOW, HIGH}) {
            refused("together(0, 0, " + v + ")", -2, BAD, () -> x.together(PRIMES, 0, v));
            refused("together(0, " + v + ", 0)", -2, BAD, () -> x.together(PRIMES, v, 0));
        }
        for (int rule : new int[] {-1, 4, LOW, HIGH}) {
            refused("together(" + rule + ", 0, 1)", -2, BAD, () -> x.together(rule, 0, 1));
        }
        due("two", x.together(PRIMES, 0, 1), 1);
        fraction(1, 1);
        x.knot(1);
        x.knot(1);
        // Four of one, by primes: {01}{23}, {02}{13}, {03}{12}.
        due("four", x.together(PRIMES, 2, 1), 1);
        fraction(1, 3);
        // By squares: all alone, or all in one.
        due("squares", x.together(SQUARES, 3, 0), 1);
        fraction(1, 2);
        x.counted(0, 1);
        due("never together", x.together(SQUARES, 3, 0), 1);
        fraction(0, 1);
        due("with all ways", x.told(1048575), 6);
        due("lowest terms", x.together(TOLD, 3, 2), 1);
        fraction(2, 5);
        x.counted(0, 2);
        refused("no parting", -3, NO, () -> x.together(TOLD, 0, 1));
        refused("no parting, alike", -2, BAD, () -> x.together(TOLD, 1, 1));
        fraction(2, 5);
    }

    private static void fraction(int above, int below) {
        due("above", x.part(0), above);
        due("below", x.part(1), below);
    }

    private static void soonest() {
        fresh(18);
        for (int rule : new int[] {-1, 4, LOW, HIGH}) {
            refused("soonest(" + rule + ")", -2, BAD, () -> x.soonest(rule));
        }
        due("nobody", x.soonest(SQUARES), 0);
        x.one(0, 3);
        due("no way", x.soonest(SQUARES), -1);
        x.way(0, 1, true);
        x.way(1, 2, true);
        notSo("no way to home", -1, () -> x.soonest(SQUARES));
        x.way(2, 3, true);
        due("three ways", x.soonest(SQUARES), 3);
        due("one is no prime", x.soonest(PRIMES), -1);
        x.way(0, 2, true);
        due("two ways", x.soonest(SQUARES), 2);
        x.way(0, 3, true);
        due("one way", x.soonest(SQUARES), 1);
        x.way(0, 3, false);
        due("two again", x.soonest(SQUARES), 2);
        x.told(1);
        due("told one", x.soonest(TOLD), 2);
        x.told(2);
        due("told two", x.soonest(TOLD), -1);
        x.one(0, 0);
        due("one to go, one to stay", x.soonest(SQUARES), 2);
        due("two go and one comes back: never", x.soonest(PRIMES), -1);
        x.one(0, 3);
        // 0 and 2 go together, and 1 stays.
        due("two of three", x.soonest(PRIMES), 2);
        due("at home at once", home(), 0);
    }

    private static int home() {
        land("one 2 2;one 1 1;");
        return x.soonest(PRIMES);
    }

    private static void soonestWithCompanies() {
        land("way 0 1;one 0 1;one 0 1;one 0 1;one 0 1;");
        // Four at once by primes: two, then two; by squares all four at once.
        due("four by primes", x.soonest(PRIMES), 2);
        due("four by squares", x.soonest(SQUARES), 1);
        due("four by even", x.soonest(EVEN), 1);
        land("way 0 1;one 0 1;one 0 1;one 0 1;");
        due("three by primes", x.soonest(PRIMES), 1);
        due("three by squares", x.soonest(SQUARES), 3);
        due("three by even", x.soonest(EVEN), -1);
        land("way 0 1;one 0 1;one 1 0;");
        due("two who meet are no company", x.soonest(SQUARES), 1);
        due("nor by primes", x.soonest(PRIMES), -1);
        land("way 0 1;one 0 1;one 0 1;one 0 1;one 0 1;one 0 1;");
        due("five by primes", x.soonest(PRIMES), 1);
        due("five by even", x.soonest(EVEN), -1);
        land("way 0 1;way 0 2;one 0 1;one 0 2;one 1 0;one 2 0;one 0 0;");
        due("to two corners and back in an hour", x.soonest(SQUARES), 1);
        land("way 0 1;way 1 2;way 2 3;one 0 3;one 0 3;one 1 3;one 3 0;");
        due("meeting and parting", x.soonest(PRIMES), 9);
        land("way 0 1;way 1 2;way 2 3;one 0 3;one 0 3;one 1 3;one 3 0;one 1 1;");
        due("meeting and parting", x.soonest(PRIMES), 8);
        oneThingChanges();
        // All from everywhere to everywhere: each state is next to each.
        land("way 0 1;way 0 2;way 0 3;way 1 2;way 1 3;way 2 3;one 3 0;one 3 0;one 3 0;one 3 1;one 3 3;");
        x.told(31);
        due("all ways, all sizes", x.soonest(TOLD), 1);
        due("the first person", x.at(TOLD, 1, 0), 0);
        due("the last person", x.at(TOLD, 1, 4), 3);
        due("nobody never", x.never(TOLD), 0);
        // 3 comes to 1 in company only, and nobody goes on from there alone: with two of 0, 1, 2
        // the third of them would go home alone. So two hours are too few.
        due("all ways by primes", x.soonest(PRIMES), 3);
    }

    /** What was found for one land must not be told for another one that is like it but for one thing. */
    private static void oneThingChanges() {
        land("way 0 1;way 1 2;way 2 3;one 0 3;");
        due("from 0 to 3", x.soonest(SQUARES), 3);
        land("way 0 1;way 1 2;way 2 3;one 1 3;");
        due("from 1 to 3", x.soonest(SQUARES), 2);
        due("where at first", x.at(SQUARES, 0, 0), 1);
        land("way 0 1;way 1 2;way 2 3;one 1 2;");
        due("from 1 to 2", x.soonest(SQUARES), 1);
        x.way(1, 2, false);
        due("without the way", x.soonest(SQUARES), -1);
        x.way(1, 2, true);
        x.way(0, 1, false);
        due("without another way", x.soonest(SQUARES), 1);
        x.told(1);
        due("told one", x.soonest(TOLD), 1);
        x.told(0);
        due("told none", x.soonest(TOLD), -1);
        land("way 0 1;one 0 0;");
        due("one at home", x.never(SQUARES), 0);
        x.one(2, 0);
        due("another who can not be", x.never(SQUARES), 2);
        x.one(0, 0);
        due("a third", x.never(SQUARES), 2);
        land("way 0 1;one 0 0;one 0 0;");
        due("two at home", x.never(SQUARES), 0);
        land("way 0 1;one 0 0;one 0 2;");
        due("one not at home", x.never(SQUARES), 2);
        land("way 0 1;one 0 0;one 3 0;");
        due("one from afar", x.never(SQUARES), 2);
        land("way 0 1;one 3 0;one 0 0;");
        due("the other one", x.never(SQUARES), 1);
    }

    private static void at() {
        fresh(19);
        land("way 0 1;way 1 2;way 2 3;way 0 2;way 1 3;one 0 3;one 0 3;");
        // Two hours by 1 or by 2: by 1 is the first row.
        int[] row = {0, 1, 3};
        for (int hour = 0; hour < 3; hour++) {
            for (int person = 0; person < 2; person++) {
                due("at(0, " + hour + ", " + person + ")", x.at(PRIMES, hour, person), row[hour]);
            }
        }
        notSo("beyond the end", -5, () -> x.at(PRIMES, 3, 0));
        notSo("far beyond the end", -5, () -> x.at(PRIMES, HIGH, 1));
        x.told(0);
        refused("never", -20, NO, () -> x.at(TOLD, 0, 0));
        refused("never, beyond", -20, NO, () -> x.at(TOLD, 9, 0));
        refused("never, no hour", -10, BAD, () -> x.at(TOLD, -1, 0));
        refused("never, no person", -10, BAD, () -> x.at(TOLD, 0, 2));
        for (int v : new int[] {-1, LOW}) {
            refused("at(0, " + v + ", 0)", -10, BAD, () -> x.at(PRIMES, v, 0));
        }
        for (int v : new int[] {-1, 2, 5, LOW, HIGH}) {
            refused("at(0, 0, " + v + ")", -10, BAD, () -> x.at(PRIMES, 0, v));
        }
        for (int v : new int[] {-1, 4, LOW, HIGH}) {
            refused("at(" + v + ", 0, 0)", -10, BAD, () -> x.at(v, 0, 0));
        }
        land("way 0 1;way 0 2;way 1 3;way 2 3;one 0 3;one 0 0;one 0 3;");
        // By squares one by one: 0 by 1 and 2 by 2 is ahead of the other way round; 1 stays at home.
        due("0 behind 1", x.at(SQUARES, 1, 0), 1);
        due("1 behind 1", x.at(SQUARES, 1, 1), 0);
        due("2 behind 1", x.at(SQUARES, 1, 2), 2);
        land("way 0 1;way 1 2;one 0 2;one 0 2;one 0 1;");
        // Three hours: person 0 waits first, as 0 is less than 1; who goes to 1 has an hour to lose.
        due("soonest", x.soonest(SQUARES), 3);
        due("0 behind 1", x.at(SQUARES, 1, 0), 0);
        due("1 behind 1", x.at(SQUARES, 1, 1), 1);
        due("2 behind 1", x.at(SQUARES, 1, 2), 0);
        due("0 behind 2", x.at(SQUARES, 2, 0), 1);
        due("1 behind 2", x.at(SQUARES, 2, 1), 2);
        due("2 behind 2", x.at(SQUARES, 2, 2), 0);
        due("2 behind 3", x.at(SQUARES, 3, 2), 1);
        land("one 2 2;");
        due("at home", x.at(PRIMES, 0, 0), 2);
        due("beyond", x.at(PRIMES, 1, 0), -5);
    }

    private static void never() {
        fresh(20);
        for (int rule : new int[] {-1, 4, LOW, HIGH}) {
            refused("never(" + rule + ")", -2, BAD, () -> x.never(rule));
        }
        land("one 0 1;one 1 1;one 2 3;");
        due("no ways", x.never(PRIMES), 5);
        x.way(2, 3, true);
        due("one alone is no prime", x.never(PRIMES), 5);
        due("one alone is a square", x.never(SQUARES), 1);
        land("way 0 1;one 0 1;one 0 0;");
        // Two go together: 0 is at home then, though 1 is not, so all at once are so never.
        due("each at home in some state", x.never(PRIMES), 0);
        due("but not at once", x.soonest(PRIMES), -1);
        land("way 0 1;way 2 3;one 0 1;one 0 3;one 1 0;");
        due("of two parts", x.never(SQUARES), 2);
        // 0 and 1 go to 2, and two of the three come back.
        due("the same by primes", x.never(PRIMES), 2);
    }

    private static void hired() {
        fresh(21);
        int[] without = {1, 0, 1, 1};
        int[] with = {2, 0, -1, 2};
        for (int rule = 0; rule < 4; rule++) {
            due("hired(" + rule + ", false)", x.hired(rule, false), without[rule]);
            due("hired(" + rule + ", true)", x.hired(rule, true), with[rule]);
        }
        x.told(1 << 19);
        due("19 hired", x.hired(TOLD, false), 19);
        notSo("19 can not go back", -1, () -> x.hired(TOLD, true));
        x.told(1 << 19 | 1 << 18);
        due("19 can go back", x.hired(TOLD, true), 19);
        x.told(1 << 4 | 1 << 9 | 1 << 8);
        due("4 hired", x.hired(TOLD, false), 4);
        due("9 can go back", x.hired(TOLD, true), 9);
        x.told(1);
        due("none is hired, none goes back", x.hired(TOLD, true), 0);
        x.told(0);
        notSo("nothing told", -1, () -> x.hired(TOLD, false));
        for (int rule : new int[] {-1, 4, LOW, HIGH}) {
            refused("hired(" + rule + ")", -2, BAD, () -> x.hired(rule, true));
        }
    }

    private static void still() {
        fresh(22);
        due("last", x.last(3, 99), 0);
        due("last", x.last(3, 1), 99);
        due("last of another", x.last(0, 2), 0);
        for (int v : new int[] {-1, 4, LOW, HIGH}) {
            refused("last(" + v + ", 1)", -2, BAD, () -> x.last(v, 1));
        }
        for (int v : new int[] {-1, 100, LOW, HIGH}) {
            refused("last(3, " + v + ")", -2, BAD, () -> x.last(3, v));
        }
        due("last", x.last(3, 0), 1);
        promise = 23;
        x.last(0, 0);
        for (int v : new int[] {-1, 4, LOW, HIGH}) {
            refused("still(" + v + ")", -2, BAD, () -> x.still(v));
        }
        land("one 0 1;one 0 1;one 0 1;one 2 0;");
        due("no ways", x.still(PRIMES), 5);
        x.way(1, 0, true);
        due("a way from 0", x.still(PRIMES), 4);
        x.way(3, 2, true);
        due("one can not leave 2 by primes", x.still(PRIMES), 4);
        due("but by squares", x.still(SQUARES), 0);
        x.last(0, 2);
        due("three can leave", x.still(PRIMES), 4);
        due("two can not again", x.still(EVEN), 5);
        x.last(0, 3);
        due("two can leave", x.still(PRIMES), 4);
        x.told(1 << 2);
        due("told three alone", x.still(TOLD), 5);
        x.last(0, 0);
        due("three again", x.still(TOLD), 4);
        x.last(1, 1);
        x.last(3, 1);
        due("nobody starts there", x.still(SQUARES), 0);
        x.last(2, 1);
        due("one can not again", x.still(SQUARES), 4);
        x.told(1 << 3);
        due("more than are there", x.still(TOLD), 5);
        land("");
        due("nobody", x.still(TOLD), 0);
        due("lasts stay", x.last(2, 0), 1);
    }

    private static void tables() {
        fresh(24);
        // One table by primes, 4 seats: 1 stands; 2, 3 sit; 1 stands; 2 stand.
        int[] stood = {0, 1, 1, 1, 2, 4};
        int[] left = {0, 1, 0, 0, 1, 2};
        for (int n = 0; n < 6; n++) {
            due("stood of " + n, x.tables(PRIMES, 1, 4, n, 0), stood[n]);
            due("left of " + n, x.tables(PRIMES, 1, 4, n, 1), left[n]);
        }
        // Squares, one table of 4: at once, 0 0 0 0 would need 1 to 4: 1 sits, then 1 2 stand, then 0.
        due("stood", x.tables(SQUARES, 1, 4, 4, 0), 3);
        due("stood of 2", x.tables(SQUARES, 1, 4, 2, 0), 1);
        due("left", x.tables(SQUARES, 1, 4, 4, 1), 0);
        due("three tables", x.tables(SQUARES, 3, 1, 3, 0), 0);
        due("two tables", x.tables(SQUARES, 2, 1, 3, 0), 1);
        due("two tables, left", x.tables(SQUARES, 2, 1, 3, 1), 1);
        due("one table", x.tables(SQUARES, 1, 1, 3, 0), 3);
        due("one seat each", x.tables(SQUARES, 3, 1, 5, 0), 3);
        due("one seat each, left", x.tables(SQUARES, 3, 1, 5, 1), 2);
        due("even, all", x.tables(EVEN, 3, 12, 24, 0), 12);
        due("stood and left want other rows", x.tables(TOLD, 1, 3, 3, 0), 1);
        // The first two sit down alone; two stand until a fifth makes one of the tables four.
        due("two tables of squares", x.tables(SQUARES, 2, 4, 5, 0), 3);
        due("two tables of squares, left", x.tables(SQUARES, 2, 4, 6, 1), 1);
        x.told(1048575);
        due("all told", x.tables(TOLD, 1, 12, 24, 0), 78);
        due("all told, three tables", x.tables(TOLD, 3, 8, 24, 0), 0);
        due("all told, left", x.tables(TOLD, 1, 11, 24, 1), 13);
        x.told(0);
        due("nothing told", x.tables(TOLD, 3, 12, 24, 0), 300);
        due("nothing told, left", x.tables(TOLD, 3, 12, 24, 1), 24);
        x.told(1 << 1 | 1 << 6);
        // 2 or 7 at one table of 7: two at once and five more at the end, 1 0 1 2 3 4 0.
        due("2 and 7", x.tables(TOLD, 1, 7, 7, 0), 11);
        due("2 and 7 with 6 seats", x.tables(TOLD, 1, 6, 7, 0), 16);
        due("2 and 7, two tables", x.tables(TOLD, 2, 7, 9, 1), 0);
        for (int v : new int[] {-1, LOW, HIGH, 25}) {
            refused("tables rule", -2, BAD, () -> x.tables(v, 1, 1, 1, 0));
            refused("tables t", -2, BAD, () -> x.tables(0, v, 1, 1, 0));
            refused("tables s", -2, BAD, () -> x.tables(0, 1, v, 1, 0));
            refused("tables n", -2, BAD, () -> x.tables(0, 1, 1, v, 0));
            refused("tables what", -2, BAD, () -> x.tables(0, 1, 1, 1, v));
        }
        refused("tables rule 4", -2, BAD, () -> x.tables(4, 1, 1, 1, 0));
        refused("no tables", -2, BAD, () -> x.tables(0, 0, 1, 1, 0));
        refused("four tables", -2, BAD, () -> x.tables(0, 4, 1, 1, 0));
        refused("no seats", -2, BAD, () -> x.tables(0, 1, 0, 1, 0));
        refused("13 seats", -2, BAD, () -> x.tables(0, 1, 13, 1, 0));
        refused("what 2", -2, BAD, () -> x.tables(0, 1, 1, 1, 2));
    }

    private static void ferry() {
        fresh(25);
        for (int v : new int[] {0, -1, 21, LOW, HIGH}) {
            refused("company(" + v + ")", -2, BAD, () -> x.company(v));
        }
        for (int i = 0; i < 8; i++) {
            due("company", x.company(20 - i), i);
            due("companies", x.count(6), i + 1);
        }
        refused("company", -4, FULL, () -> x.company(1));
        refused("company(21) when full", -2, BAD, () -> x.company(21));
        promise = 26;
        due("disperse", x.disperse(), 8);
        due("disperse", x.disperse(), 0);
        due("companies", x.count(6), 0);
        promise = 27;
        due("room", x.put(0, 60), 10);
        due("room", x.put(0, 1), 60);
        due("crew", x.put(1, 3), 0);
        due("crew", x.put(1, 0), 3);
        for (int v : new int[] {-1, 61, LOW, HIGH}) {
            refused("put(0, " + v + ")", -2, BAD, () -> x.put(0, v));
            refused("put(1, " + v + ")", -2, BAD, () -> x.put(1, v));
            refused("put(" + v + ", 1)", -2, BAD, () -> x.put(v, 1));
        }
        refused("put(0, 0)", -2, BAD, () -> x.put(0, 0));
        refused("put(1, 4)", -2, BAD, () -> x.put(1, 4));
        refused("put(2, 1)", -2, BAD, () -> x.put(2, 1));
        due("room", x.put(0, 10), 1);
    }

    private static void ferryRules() {
        fresh(28);
        due("none", x.ferry(PRIMES, 0), 0);
        due("none, first", x.ferry(PRIMES, 1), 0);
        x.company(3);
        x.company(4);
        x.company(2);
        x.company(1);
        // 10 in all: 3, then 4 2 1; or 3 4, then 2 1; or 3 2, 4 1.
        due("trips", x.ferry(PRIMES, 0), 2);
        due("first", x.ferry(PRIMES, 1), 1);
        due("even trips", x.ferry(EVEN, 0), 1);
        due("even first", x.ferry(EVEN, 1), 15);
        x.put(0, 6);
        due("room 6: 4 2 1 are too many", x.ferry(PRIMES, 0), 2);
        due("room 6: 3 4 are too many", x.ferry(PRIMES, 1), 5);
        x.put(0, 5);
        due("room 5 does", x.ferry(PRIMES, 1), 5);
        x.put(0, 4);
        notSo("room 4: 4 go never", -1, () -> x.ferry(PRIMES, 0));
        notSo("room 4: no first", -1, () -> x.ferry(PRIMES, 1));
        due("room 4, even: 3 1, 4, 2", x.ferry(EVEN, 0), 3);
        due("room 4, even first", x.ferry(EVEN, 1), 9);
        x.put(0, 10);
        x.put(1, 1);
        // All with one of crew are 11, too many: 3 1 and 4 2 (5 and 7) are ahead of 3 2 1 and 4.
        due("crew", x.ferry(PRIMES, 0), 2);
        due("crew, first", x.ferry(PRIMES, 1), 9);
        x.put(0, 11);
        due("room for all", x.ferry(PRIMES, 0), 1);
        due("room for all, first", x.ferry(PRIMES, 1), 15);
        notSo("squares with crew: 3 and 2 1, but not 4", -1, () -> x.ferry(SQUARES, 0));
        notSo("squares with crew, first", -1, () -> x.ferry(SQUARES, 1));
        x.put(1, 3);
        x.put(0, 60);
        due("even with three of crew: 3, then 4 2 1", x.ferry(EVEN, 0), 2);
        due("even with three of crew, first", x.ferry(EVEN, 1), 1);
        for (int v : new int[] {-1, 4, LOW, HIGH}) {
            refused("ferry(" + v + ", 0)", -2, BAD, () -> x.ferry(v, 0));
            refused("ferry(0, " + v + ")", -2, BAD, () -> x.ferry(PRIMES, v));
        }
        refused("ferry(0, 2)", -2, BAD, () -> x.ferry(PRIMES, 2));
    }

    private static void part() {
        fresh(29);
        fraction(0, 1);
        x.knot(1);
        x.knot(1);
        x.knot(1);
        x.told(7);
        // Three of one, all ways: 2 of 5 have two told ones in one.
        x.together(TOLD, 0, 2);
        fraction(2, 5);
        for (int v : new int[] {-1, 2, LOW, HIGH}) {
            refused("part(" + v + ")", -2, BAD, () -> x.part(v));
        }
        fraction(2, 5);
    }

    private static void images() {
        fresh(30);
        for (int v : new int[] {-1, 2, 31, 32, LOW, HIGH}) {
            refused("image(" + v + ")", -2, BAD, () -> x.image(v));
            refused("from(" + v + ")", -2, BAD, () -> x.from(v));
        }
        refused("from(0) ahead of an image", -3, NO, () -> x.from(0));
        long empty = x.digest();
        due("image(1)", x.image(1), 1);
        refused("from(0) still", -3, NO, () -> x.from(0));
        fillAll();
        long full = x.digest();
        due("image(0)", x.image(0), 1);
        due("digest", x.digest(), full);
        promise = 31;
        due("from(1)", x.from(1), 1);
        // The fraction is 1 by 1 now, and stays.
        due("below is not kept", x.digest(), empty + 31);
        due("status stays", x.status(1), 2);
        due("from(0)", x.from(0), 1);
        due("all is there again", x.digest(), full);
        due("judged", x.judged(PRIMES), -1);
        due("as counted", x.partings(EVEN, 0), 1);
        due("as counted", x.partings(TOLD, 0), 0);
        x.type(65, 1);
        x.way(2, 3, true);
        x.one(2, 3);
        x.knot(3);
        x.company(3);
        x.last(2, 9);
        x.put(0, 33);
        x.counted(0, 9);
        due("from(0)", x.from(0), 1);
        due("an image is not what is changed", x.digest(), full);
        due("from(1)", x.from(1), 1);
        due("image(0) is written over", x.image(0), 1);
        fillAll();
        due("from(0)", x.from(0), 1);
        due("empty again", x.digest(), empty + 31);
    }

    private static void fillAll() {
        read("way 0 1;one 0 1;one 0 1;go 3 0 1 0 1;");
        x.told(1);
        x.knot(1);
        x.knot(1);
        x.counted(0, 2);
        x.together(PRIMES, 0, 1);
        x.company(7);
        x.put(0, 20);
        x.put(1, 2);
        x.last(3, 44);
    }

    private static void status() {
        fresh(32);
        x.told(-1);
        x.told(-1);
        x.way(0, 1, false);
        x.from(0);
        x.way(0, 1, false);
        for (int i = 0; i < 9; i++) {
            x.knot(1);
        }
        due("status(0)", x.status(0), 2);
        due("status(1)", x.status(1), 3);
        due("status(2)", x.status(2), 1);
        for (int v : new int[] {-1, 3, LOW, HIGH}) {
            refused("status(" + v + ")", -1, BAD, () -> x.status(v));
        }
        due("status(0)", x.status(0), 6);
    }

    private static void count() {
        fresh(33);
        fillAll();
        int[] counts = {1, 2, 1, 37, 2, 1, 1};
        for (int what = 0; what < 7; what++) {
            due("count(" + what + ")", x.count(what), counts[what]);
        }
        x.way(1, 2, true);
        x.one(0, 0);
        x.type(0, 3);
        due("ways", x.count(0), 2);
        due("people", x.count(1), 3);
        due("bytes", x.count(3), 40);
        for (int v : new int[] {-1, 7, LOW, HIGH}) {
            refused("count(" + v + ")", -2, BAD, () -> x.count(v));
        }
    }

    private static void digest() {
        fresh(34);
        due("new", x.digest(), mix(0, 0, 0, 0, 0, 0, 0, 6, 0, 0, 0, 0, 0, 0, 0, 0, 0, 0, 10, 0, 0, 1));
        fillAll();
        x.clear();
        x.type(0x41ff, 2);
        x.way(3, 1, true);
        x.way(0, 2, true);
        long want = mix(3, 2, 1, 2, 2, 1, 1, 1, 1, 1, 0, 0, 1, 0, 0, 1, 0, 1, 3, 0, 1, 3, 0x41, 0xff,
            1, 1, 0, 2, 0, 0, 0, 44, 7, 20, 2, 1, 1);
        due("full", x.digest(), want);
        x.told(-1);
        due("status is none of it", x.digest(), want);
        x.image(1);
        due("images are none of it", x.digest(), want);
    }

    private static long mix(long... all) {
        long h = 619;
        for (long v : all) {
            h = 31 * h + v;
        }
        return h;
    }
}
