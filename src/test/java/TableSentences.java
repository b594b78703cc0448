/** Promises 24 to 28: tables for guests, the ferry. */
final class TableSentences extends Sentences {
    private static final int STOOD = 0, LEFT = 1, TRIPS = 0, FIRST = 1;

    private TableSentences() {
    }

    static void all() {
        tables();
        guests();
        tableAnswers();
        company();
        put();
        trips();
        firstTrip();
        ferryAnswers();
    }

    private static void tables() {
        sentence(24, "TABLES: t of them (1 .. 3)", () -> {
            // One seat each, one alone is a square: who has no table stands.
            due("one table", x.tables(SQUARES, 1, 1, 3, STOOD), 0 + 1 + 2);
            due("two tables", x.tables(SQUARES, 2, 1, 3, STOOD), 0 + 0 + 1);
            due("three tables", x.tables(SQUARES, 3, 1, 3, STOOD), 0);
            due("three tables, four guests", x.tables(SQUARES, 3, 1, 4, LEFT), 1);
            x.told(bits(4));
            due("one table of four", x.tables(TOLD, 1, 4, 12, STOOD), 6 + 36);
            due("two tables of four", x.tables(TOLD, 2, 4, 12, STOOD), 6 + 6 + 10);
            due("three tables of four", x.tables(TOLD, 3, 4, 12, STOOD), 6 + 6 + 6);
            bad("no table", () -> x.tables(SQUARES, 0, 1, 3, STOOD));
            bad("four tables", () -> x.tables(SQUARES, 4, 1, 3, STOOD));
        });
        sentence(24, "with s seats each (1 .. 12);", () -> {
            x.told(bits(5));
            due("four seats for five", x.tables(TOLD, 1, 4, 5, STOOD), 1 + 2 + 3 + 4 + 5);
            due("five seats for five", x.tables(TOLD, 1, 5, 5, STOOD), 1 + 2 + 3 + 4);
            x.told(1048575);
            due("twelve seats for twelve", x.tables(TOLD, 1, 12, 12, STOOD), 0);
            due("twelve seats for thirteen", x.tables(TOLD, 1, 12, 13, STOOD), 1);
            due("one seat for thirteen", x.tables(TOLD, 1, 1, 13, LEFT), 12);
            due("twelve seats at two tables", x.tables(TOLD, 2, 12, 24, LEFT), 0);
            bad("no seat", () -> x.tables(SQUARES, 1, 0, 3, STOOD));
            bad("thirteen seats", () -> x.tables(SQUARES, 1, 13, 3, STOOD));
        });
        sentence(24, "n guests (0 .. 24) come one by one;", () -> {
            x.told(0);
            due("nobody comes", x.tables(TOLD, 3, 12, 0, STOOD), 0);
            due("nobody comes", x.tables(TOLD, 3, 12, 0, LEFT), 0);
            due("one", x.tables(TOLD, 3, 12, 1, STOOD), 1);
            due("two", x.tables(TOLD, 3, 12, 2, STOOD), 1 + 2);
            due("24", x.tables(TOLD, 3, 12, 24, STOOD), 300);
            due("24", x.tables(TOLD, 3, 12, 24, LEFT), 24);
            bad("one less than nobody", () -> x.tables(TOLD, 1, 1, -1, STOOD));
            bad("25", () -> x.tables(TOLD, 1, 1, 25, STOOD));
        });
    }

    private static void guests() {
        sentence(24, "behind each of them some who stand may sit down,", () -> {
            due("one stands, two sit", x.tables(PRIMES, 1, 2, 2, STOOD), 1);
            due("three: one stands again", x.tables(PRIMES, 1, 2, 3, STOOD), 1 + 0 + 1);
            x.told(bits(2, 7));
            due("two at once, five more in the end", x.tables(TOLD, 1, 7, 7, STOOD), 1 + 0 + 1 + 2 + 3 + 4 + 0);
            // Two wait behind the fourth guest, to sit down with the fifth: 1 0 1 2 0 0, not 1 0 1 0 1 2.
            x.told(bits(2, 5, 6));
            due("nobody has to sit down", x.tables(TOLD, 2, 6, 6, STOOD), 4);
        });
        sentence(24, "nobody rises:", () -> {
            // Five and three who stand, or four and, four guests on, four more: 1 2 3 0 0 1 2 3, 1 2 3 0 1 2 3 0.
            x.told(bits(4, 5));
            due("4 and 5 at two tables", x.tables(TOLD, 2, 5, 8, STOOD), 12);
            due("4 and 5 at two tables", x.tables(TOLD, 2, 5, 9, STOOD), 12);
            x.told(bits(2, 3));
            due("2 and 3 at two tables", x.tables(TOLD, 2, 3, 4, STOOD), 2);
            // 1 2 0 1 0 1 2 0 1 by 3, 5, 5 3; then 5 5: 0 1 2, and 5 5 3: 0.
            x.told(bits(3, 5));
            due("3 and 5 at three tables, nine guests", x.tables(TOLD, 3, 5, 9, STOOD), 8);
            due("3 and 5 at three tables, thirteen guests", x.tables(TOLD, 3, 5, 13, STOOD), 11);
            // One at each of three; three wait, for one of the tables to have four: 0 0 0 1 2 0 1 2 0 1 2 0.
            due("1 and 4 at three tables, nine guests", x.tables(SQUARES, 3, 4, 9, STOOD), 6);
            due("1 and 4 at three tables, twelve guests", x.tables(SQUARES, 3, 4, 12, STOOD), 9);
        });
        sentence(24, "each table has nobody, or an ALLOWED number.", () -> {
            due("nobody at the third", x.tables(EVEN, 3, 2, 4, STOOD), 1 + 0 + 1 + 0);
            due("three can't be at two tables of two", x.tables(EVEN, 2, 2, 3, LEFT), 1);
            due("one is no prime", x.tables(PRIMES, 3, 12, 1, LEFT), 1);
            due("four by primes", x.tables(PRIMES, 1, 12, 4, LEFT), 1);
            due("four by primes at two tables", x.tables(PRIMES, 2, 12, 4, LEFT), 0);
            due("four by primes at two tables", x.tables(PRIMES, 2, 12, 4, STOOD), 2);
            due("24 by squares", x.tables(SQUARES, 3, 12, 24, LEFT), 2);
        });
        sentence(24, "STOOD: how many stand, counted behind each guest (when all have sat down who will), together: the fewest.", () -> {
            int[] stood = {0, 1, 1, 1, 2, 4, 7};
            for (int n = 0; n < stood.length; n++) {
                due("primes, one table of four, " + n, x.tables(PRIMES, 1, 4, n, STOOD), stood[n]);
            }
            // Each guest sits down at once.
            due("squares, three tables of one", x.tables(SQUARES, 3, 1, 3, STOOD), 0);
            due("even, all in the end", x.tables(EVEN, 3, 12, 24, STOOD), 12);
            x.told(1048575);
            due("one table of twelve", x.tables(TOLD, 1, 12, 24, STOOD), 78);
            due("three tables of eight", x.tables(TOLD, 3, 8, 24, STOOD), 0);
        });
        sentence(24, "LEFT: how many stand in the end, at least, if STOOD does not matter.", () -> {
            // 1 2 3 0 1 2, then seven at one table: 0 1 2; four more at the other one: 3 0 1.
            x.told(bits(4, 7));
            due("STOOD of nine", x.tables(TOLD, 2, 7, 9, STOOD), 12);
            due("LEFT of nine", x.tables(TOLD, 2, 7, 9, LEFT), 1);
            due("LEFT of eleven", x.tables(TOLD, 2, 7, 11, LEFT), 0);
            due("LEFT of 24", x.tables(TOLD, 3, 7, 24, LEFT), 3);
            due("LEFT by even", x.tables(EVEN, 1, 12, 24, LEFT), 12);
            due("LEFT by even", x.tables(EVEN, 3, 12, 24, LEFT), 0);
            due("LEFT of none", x.tables(EVEN, 3, 12, 0, LEFT), 0);
        });
    }

    private static void tableAnswers() {
        sentence(24, "STOOD (0), LEFT (1).", () -> {
            due("what = 0", x.tables(PRIMES, 1, 4, 5, 0), 4);
            due("what = 1", x.tables(PRIMES, 1, 4, 5, 1), 2);
        });
        sentence(24, "BAD.", () -> {
            for (int what = 0; what < 2; what++) {
                int w = what;
                outside("tables(rule, 1, 1, 1, " + w + ")", 0, 3, v -> x.tables(v, 1, 1, 1, w));
                outside("tables(0, t, 1, 1, " + w + ")", 1, 3, v -> x.tables(0, v, 1, 1, w));
                outside("tables(0, 1, s, 1, " + w + ")", 1, 12, v -> x.tables(0, 1, v, 1, w));
                fresh();
                outside("tables(0, 1, 1, n, " + w + ")", 0, 24, v -> x.tables(0, 1, 1, v, w));
            }
            outside("tables(0, 1, 1, 1, what)", 0, 1, v -> x.tables(0, 1, 1, 1, v));
        });
    }

    private static void company() {
        sentence(25, "THE FERRY: companies 0 .. 7, as they come", () -> {
            for (int i = 0; i < 8; i++) {
                due("company(" + (1 + i) + ")", x.company(1 + i), i);
            }
            due("count(6)", x.count(6), 8);
            x.put(0, 36);
            due("all eight", x.ferry(EVEN, FIRST), 255);
        });
        sentence(25, "(1 .. 20 each),", () -> {
            due("company(1)", x.company(1), 0);
            due("company(20)", x.company(20), 1);
            bad("company(0)", () -> x.company(0));
            bad("company(21)", () -> x.company(21));
        });
        sentence(25, "A company of THE FERRY: its number.", () -> {
            due("company(3)", x.company(3), 0);
            due("company(3)", x.company(3), 1);
            x.disperse();
            due("from 0 again", x.company(3), 0);
        });
        sentence(25, "BAD;", () -> {
            outside("company", 1, 20, v -> x.company(v));
            companies(1, 1, 1, 1, 1, 1, 1, 1);
            outside("company when full, too", 1, 20, v -> x.company(v));
        });
        sentence(25, "FULL: 8.", () -> {
            companies(1, 1, 1, 1, 1, 1, 1);
            due("the eighth", x.company(20), 7);
            full("the ninth", () -> x.company(1));
            full("and again", () -> x.company(20));
        });
        sentence(26, "No companies: how many there were.", () -> {
            due("none", x.disperse(), 0);
            companies(1, 2, 3, 4, 5, 6, 7, 8);
            x.put(0, 17);
            due("eight", x.disperse(), 8);
            due("none again", x.disperse(), 0);
            due("count(6)", x.count(6), 0);
            due("ROOM stays", x.put(0, 17), 17);
            due("no trip", x.ferry(PRIMES, TRIPS), 0);
        });
    }

    private static void put() {
        sentence(27, "with CREW (0 .. 3; 0 at first)", () -> {
            due("put(1, 3)", x.put(1, 3), 0);
            due("put(1, 0)", x.put(1, 0), 3);
            bad("put(1, 4)", () -> x.put(1, 4));
            bad("put(1, -1)", () -> x.put(1, -1));
            due("put(1, 1)", x.put(1, 1), 0);
        });
        sentence(27, "(1 .. 60; 10 at first) people,", () -> {
            due("put(0, 60)", x.put(0, 60), 10);
            due("put(0, 1)", x.put(0, 1), 60);
            bad("put(0, 0)", () -> x.put(0, 0));
            bad("put(0, 61)", () -> x.put(0, 61));
            due("put(0, 2)", x.put(0, 2), 1);
        });
        sentence(27, "ROOM (0), CREW (1): what it was.", () -> {
            due("ROOM", x.put(0, 3), 10);
            due("CREW", x.put(1, 2), 0);
            due("ROOM", x.put(0, 3), 3);
            due("CREW", x.put(1, 2), 2);
        });
        sentence(27, "BAD.", () -> {
            outside("put(what, 1)", 0, 1, v -> x.put(v, 1));
            outside("put(0, v)", 1, 60, v -> x.put(0, v));
            outside("put(1, v)", 0, 3, v -> x.put(1, v));
            bad("put(2, 61)", () -> x.put(2, 61));
            due("ROOM stays", x.put(0, 10), 10);
            due("CREW stays", x.put(1, 0), 0);
        });
    }

    private static void trips() {
        sentence(28, "go whole;", () -> {
            companies(12);
            due("twelve in a room of ten: not six and six", x.ferry(EVEN, TRIPS), -1);
            x.put(0, 12);
            due("twelve in a room of twelve", x.ferry(EVEN, TRIPS), 1);
            x.disperse();
            companies(4);
            due("four: not two and two", x.ferry(PRIMES, TRIPS), -1);
        });
        sentence(28, "a trip takes some (one at least),", () -> {
            x.put(1, 2);
            due("CREW alone need not go", x.ferry(PRIMES, TRIPS), 0);
            due("nor can it", x.ferry(PRIMES, FIRST), 0);
            companies(1);
            due("one trip", x.ferry(PRIMES, TRIPS), 1);
            companies(1);
            due("both by one", x.ferry(EVEN, TRIPS), 1);
            due("each by itself", x.ferry(PRIMES, TRIPS), 2);
        });
        sentence(28, "no more than ROOM", () -> {
            companies(10);
            due("ten in a room of ten", x.ferry(EVEN, TRIPS), 1);
            x.put(0, 9);
            due("ten in a room of nine", x.ferry(EVEN, TRIPS), -1);
            x.put(0, 11);
            x.put(1, 2);
            due("ten with two of CREW in a room of eleven", x.ferry(EVEN, TRIPS), -1);
            x.put(0, 12);
            due("ten with two of CREW in a room of twelve", x.ferry(EVEN, TRIPS), 1);
            x.put(1, 0);
            x.disperse();
            companies(20, 20, 20);
            x.put(0, 60);
            due("sixty in a room of sixty", x.ferry(EVEN, TRIPS), 1);
            x.put(0, 59);
            due("sixty in a room of 59", x.ferry(EVEN, TRIPS), 2);
            companies(1);
            x.put(0, 1);
            due("a room of one", x.ferry(SQUARES, TRIPS), -1);
            x.disperse();
            companies(1, 1);
            due("one by one", x.ferry(SQUARES, TRIPS), 2);
        });
        sentence(28, "and that number (with CREW) ALLOWED.", () -> {
            companies(4);
            due("four", x.ferry(SQUARES, TRIPS), 1);
            due("four", x.ferry(PRIMES, TRIPS), -1);
            x.put(1, 1);
            due("five", x.ferry(SQUARES, TRIPS), -1);
            due("five", x.ferry(PRIMES, TRIPS), 1);
            x.put(1, 3);
            due("seven", x.ferry(PRIMES, TRIPS), 1);
            x.told(bits(7));
            due("seven are TOLD", x.ferry(TOLD, TRIPS), 1);
            x.told(bits(4));
            due("four are TOLD", x.ferry(TOLD, TRIPS), -1);
        });
        sentence(28, "TRIPS: the fewest that take all;", () -> {
            companies(3, 4, 2, 1);
            due("3 and 4 2 1, by primes", x.ferry(PRIMES, TRIPS), 2);
            due("all ten, by even", x.ferry(EVEN, TRIPS), 1);
            x.put(0, 4);
            due("3 1, 4, 2, by even", x.ferry(EVEN, TRIPS), 3);
            x.disperse();
            x.put(0, 10);
            companies(1, 3, 3, 2);
            x.told(bits(2, 3, 7));
            due("{0 1 2} {3}, not {0 3} {1} {2}", x.ferry(TOLD, TRIPS), 2);
            due("{0 1 2} {3}, not {0 3} {1} {2}", x.ferry(TOLD, FIRST), 7);
            x.disperse();
            companies(20, 20, 20, 20, 20, 20, 20, 20);
            x.put(0, 20);
            due("one by one", x.ferry(EVEN, TRIPS), 8);
            x.put(0, 40);
            due("two by two", x.ferry(EVEN, TRIPS), 4);
            x.put(0, 60);
            due("three, three and two", x.ferry(EVEN, TRIPS), 3);
        });
    }

    private static void firstTrip() {
        sentence(28, "FIRST: the first trip (bits) of the first such row by bits", () -> {
            companies(3, 4, 2, 1);
            // {3} {4 2 1}, {3 4} {2 1}, {3 2} {4 1}.
            due("first(0)", x.ferry(PRIMES, FIRST), 1);
            x.put(0, 6);
            // 4 2 1 are too many now, and so are 3 4.
            due("room of six", x.ferry(PRIMES, FIRST), 5);
            x.disperse();
            companies(20, 20, 20, 20, 20, 20, 20, 20);
            x.put(0, 60);
            due("two, three and three", x.ferry(EVEN, FIRST), 3);
            x.put(0, 20);
            due("one by one", x.ferry(EVEN, FIRST), 1);
            x.disperse();
            companies(2, 2, 2, 2);
            x.put(0, 4);
            // {0} would need two trips for the other three, that is three in all.
            due("no row of more trips", x.ferry(EVEN, FIRST), 3);
        });
        sentence(28, "(the trip with the least company that is left always next).", () -> {
            companies(5, 2, 3);
            // {1 2} is one of two trips, but 0 goes first: {0} {1 2}.
            due("0 goes first", x.ferry(PRIMES, FIRST), 1);
            due("of two", x.ferry(PRIMES, TRIPS), 2);
            x.disperse();
            companies(1, 3, 2);
            // {1} has less bits than {0 2}, but 0 goes first.
            due("0 goes first with 2", x.ferry(PRIMES, FIRST), 5);
            x.disperse();
            companies(9, 2);
            x.told(bits(2, 9));
            due("0 goes first, alone", x.ferry(TOLD, FIRST), 1);
            x.disperse();
            companies(1, 1, 1, 1, 1, 1, 1, 1);
            x.told(bits(1, 7));
            due("0 alone ahead of the seven", x.ferry(TOLD, FIRST), 1);
            x.told(bits(2, 6));
            due("0 and 1 ahead of the six", x.ferry(TOLD, FIRST), 3);
            x.told(bits(3, 5));
            due("0, 1 and 2 ahead of the five", x.ferry(TOLD, FIRST), 7);
        });
        sentence(28, "(None: it can not be.)", () -> {
            companies(11);
            due("eleven in a room of ten", x.ferry(PRIMES, TRIPS), -1);
            due("eleven in a room of ten", x.ferry(PRIMES, FIRST), -1);
            companies(2);
            due("two alone do not help", x.ferry(PRIMES, TRIPS), -1);
            due("two alone do not help", x.ferry(PRIMES, FIRST), -1);
        });
    }

    private static void ferryAnswers() {
        sentence(28, "TRIPS (0), FIRST (1; no companies: 0).", () -> {
            due("no companies, TRIPS", x.ferry(PRIMES, 0), 0);
            due("no companies, FIRST", x.ferry(PRIMES, 1), 0);
            companies(2, 3, 2);
            due("TRIPS", x.ferry(PRIMES, 0), 1);
            due("FIRST", x.ferry(PRIMES, 1), 7);
            x.disperse();
            due("no companies again, FIRST", x.ferry(PRIMES, 1), 0);
        });
        sentence(28, "NONE.", () -> {
            companies(1);
            notSo("ferry(0, 0)", -1, () -> x.ferry(PRIMES, 0));
            notSo("ferry(0, 1)", -1, () -> x.ferry(PRIMES, 1));
            notSo("but by squares", 1, () -> x.ferry(SQUARES, 1));
        });
        sentence(28, "BAD.", () -> {
            outside("ferry(rule, 0)", 0, 3, v -> x.ferry(v, 0));
            outside("ferry(rule, 1)", 0, 3, v -> x.ferry(v, 1));
            outside("ferry(0, what)", 0, 1, v -> x.ferry(PRIMES, v));
            companies(2);
            outside("ferry(rule, 0)", 0, 3, v -> x.ferry(v, 0));
            outside("ferry(0, what)", 0, 1, v -> x.ferry(PRIMES, v));
        });
    }
}
