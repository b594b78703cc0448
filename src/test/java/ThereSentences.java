import java.util.ArrayList;
import java.util.List;
import java.util.function.IntSupplier;

/** Promises 29 to 34: the fraction, images, what was refused, how many, the digest. */
final class ThereSentences extends Sentences {
    private static final String DAY = "way 0 1;one 0 1;one 0 1;go 3 0 1 0 1;";

    private ThereSentences() {
    }

    static void all() {
        fraction();
        images();
        imageAnswers();
        status();
        refusals();
        order();
        statusAnswers();
        count();
        digest();
        digestOfDays();
        digestOfCrowds();
    }

    private static void fraction() {
        sentence(29, "THE FRACTION is 0 by 1 at first;", () -> fraction(0, 1));
        sentence(29, "lowest terms, below above 0.", () -> {
            knots(1, 1, 1, 1);
            x.told(1048575);
            due("5 of 15", x.together(TOLD, 0, 1), 1);
            fraction(1, 3);
            due("2 of 4", x.together(EVEN, 0, 1), 1);
            fraction(1, 2);
            x.counted(0, 1);
            due("0 of 5", x.together(TOLD, 0, 1), 1);
            fraction(0, 1);
            x.untie();
            knots(1, 1, 1);
            due("2 of 5", x.together(TOLD, 0, 1), 1);
            fraction(2, 5);
            x.counted(0, 3);
            due("1 of 1", x.together(TOLD, 0, 1), 1);
            fraction(1, 1);
        });
        sentence(29, "THE FRACTION: above (0), below (1).", () -> {
            knots(1, 1, 1);
            x.told(1048575);
            x.together(TOLD, 2, 0);
            due("part(0)", x.part(0), 2);
            due("part(1)", x.part(1), 5);
        });
        sentence(29, "BAD.", () -> {
            outside("part", 0, 1, v -> x.part(v));
            fraction(0, 1);
        });
    }

    /** Something of all that an image keeps, each unlike what it is at first. */
    private static void fill() {
        due("read", read(DAY), 1);
        x.way(1, 2, true);
        x.one(3, 2);
        x.told(5);
        knots(1, 2);
        x.counted(1, 3);
        companies(7, 5);
        x.last(3, 44);
        x.put(0, 20);
        x.put(1, 2);
    }

    private static void images() {
        sentence(30, "IMAGES 0, 1 keep all but them, THE FRACTION and STATUS;", () -> {
            fill();
            long full = x.digest();
            due("image(0)", x.image(0), 1);
            x.image(1);
            due("another day", read("way 2 3;"), 0);
            x.told(1);
            x.untie();
            x.disperse();
            x.last(3, 0);
            x.put(0, 1);
            x.put(1, 1);
            bad("a refusal", () -> x.told(-1));
            due("from(0)", x.from(0), 1);
            due("digest()", x.digest(), full);
            due("status(0) stays", x.status(0), 1);
            due("count(0)", x.count(0), 2);
            due("ends(1)", x.ends(1), 1);
            due("read() of the same day", x.read(), 1);
            due("told(5)", x.told(5), 5);
            due("partings(0, 0)", x.partings(PRIMES, 0), 1);
            due("ferry(1, 0)", x.ferry(SQUARES, 0), -1);
            due("ferry(0, 1)", x.ferry(PRIMES, 1), -1);
            due("ferry(2, 1)", x.ferry(EVEN, 1), 3);
            due("last(3, 44)", x.last(3, 44), 44);
            due("put(0, 20)", x.put(0, 20), 20);
            due("put(1, 2)", x.put(1, 2), 2);
        });
        sentence(30, "IMAGES 0, 1 keep all but them,", () -> {
            due("image(0), empty", x.image(0), 1);
            x.told(1);
            due("image(1)", x.image(1), 1);
            due("from(0)", x.from(0), 1);
            due("the other one is there still", x.from(1), 1);
            due("told(6)", x.told(6), 1);
            due("and so is this one", x.from(0), 1);
            due("told(7)", x.told(7), 6);
            due("image(0) written over", x.image(0), 1);
            x.told(0);
            due("from(0)", x.from(0), 1);
            due("told(0)", x.told(0), 7);
        });
        sentence(30, "THE FRACTION and STATUS;", () -> {
            due("image(0)", x.image(0), 1);
            knots(1, 1);
            x.together(PRIMES, 0, 1);
            fraction(1, 1);
            no("way(0, 1, false)", () -> x.way(0, 1, false));
            due("from(0)", x.from(0), 1);
            fraction(1, 1);
            due("status(1)", x.status(1), 1);
            due("no KNOTS", x.count(4), 0);
        });
        sentence(31, "it goes on from one.", () -> {
            fill();
            x.image(1);
            long full = x.digest();
            due("from(1)", x.from(1), 1);
            x.way(2, 3, true);
            x.one(2, 3);
            x.type(65, 1);
            x.told(1);
            x.knot(3);
            x.counted(2, 3);
            x.company(3);
            x.last(2, 9);
            x.put(0, 33);
            due("an image is not what is changed", x.from(1), 1);
            due("digest()", x.digest(), full);
            x.clear();
            x.untie();
            x.disperse();
            x.read();
            due("nor by calls that empty", x.from(1), 1);
            due("digest()", x.digest(), full);
        });
    }

    private static void imageAnswers() {
        sentence(30, "An IMAGE is kept: 1.", () -> {
            due("image(0)", x.image(0), 1);
            due("image(0) again", x.image(0), 1);
            due("image(1)", x.image(1), 1);
        });
        sentence(30, "BAD.", () -> {
            outside("image", 0, 1, v -> x.image(v));
            bad("image(32)", () -> x.image(32));
            no("none was kept by it", () -> x.from(0));
            no("none was kept by it", () -> x.from(1));
        });
        sentence(31, "It goes on from an IMAGE: 1.", () -> {
            x.image(1);
            x.told(0);
            due("from(1)", x.from(1), 1);
            due("told(6)", x.told(6), 6);
            due("from(1) again", x.from(1), 1);
        });
        sentence(31, "BAD;", () -> {
            outside("from", 0, 1, v -> x.from(v));
            x.image(0);
            x.image(1);
            outside("from", 0, 1, v -> x.from(v));
            bad("from(32)", () -> x.from(32));
        });
        sentence(31, "NO: none was kept.", () -> {
            no("from(0)", () -> x.from(0));
            no("from(1)", () -> x.from(1));
            x.image(1);
            no("from(0) still", () -> x.from(0));
            due("from(1)", x.from(1), 1);
            no("from(0) behind it", () -> x.from(0));
            fresh();
            x.image(0);
            no("from(1) still", () -> x.from(1));
            due("from(0)", x.from(0), 1);
        });
    }

    private static void status() {
        sentence(32, "STATUS: how many calls were refused as BAD, NO, FULL", () -> {
            for (int i = 1; i <= 5; i++) {
                x.told(-1);
                due("status(0)", x.status(0), i);
            }
            for (int i = 1; i <= 3; i++) {
                x.from(0);
                due("status(1)", x.status(1), i);
            }
            people(7, 0, 0);
            due("status(2)", x.status(2), 2);
            due("status(0)", x.status(0), 5);
            due("status(1)", x.status(1), 3);
        });
        sentence(32, "(each answer told so below is such a one).", () -> {
            bads();
            fresh();
            no("way", () -> x.way(0, 1, false));
            no("from", () -> x.from(0));
            knots(1, 3);
            no("together", () -> x.together(PRIMES, 0, 1));
            x.one(0, 1);
            refused("at", -20, NO, () -> x.at(PRIMES, 0, 0));
            fresh();
            people(5, 0, 0);
            full("one", () -> x.one(0, 0));
            type(times(200, " "));
            full("type", () -> x.type(0, 1));
            knots(1, 1, 1, 1, 1, 1, 1, 1);
            full("knot", () -> x.knot(1));
            for (int i = 0; i < 4; i++) {
                x.counted(0, 1);
            }
            full("counted", () -> x.counted(0, 1));
            companies(1, 1, 1, 1, 1, 1, 1, 1);
            full("company", () -> x.company(1));
        });
        sentence(32, "(where others are told they count as these).", () -> {
            badApart("judged", () -> x.judged(4));
            badApart("parted", () -> x.parted(4, 0, 0));
            badApart("row", () -> x.row(4, 0, 0, 0));
            badApart("partings", () -> x.partings(4, 0));
            badApart("at", () -> x.at(4, 0, 0));
            refused("status", -1, BAD, () -> x.status(3));
            x.one(0, 1);
            refused("at", -20, NO, () -> x.at(PRIMES, 0, 0));
            // What is told otherwise than BAD, NO, FULL is none of them.
            notSo("judged", -5, () -> x.judged(PRIMES));
            notSo("row", -5, () -> x.row(PRIMES, 0, 0, 0));
            notSo("soonest", -1, () -> x.soonest(PRIMES));
            notSo("parted", -1, () -> x.parted(PRIMES, 1, 1));
            notSo("hired", -1, () -> x.hired(EVEN, true));
            type(";");
            notSo("read", -10, () -> x.read());
            x.clear();
            type("way");
            notSo("read", -13, () -> x.read());
            x.knot(1);
            notSo("partings", -1, () -> x.partings(PRIMES, 1));
            x.company(1);
            notSo("ferry", -1, () -> x.ferry(PRIMES, 0));
        });
    }

    private static void bads() {
        bad("told", () -> x.told(-1));
        bad("allowed", () -> x.allowed(0, 0));
        bad("way", () -> x.way(0, 0, true));
        bad("one", () -> x.one(4, 0));
        bad("type", () -> x.type(0, 0));
        badApart("judged", () -> x.judged(-1));
        bad("ends", () -> x.ends(0));
        badApart("parted", () -> x.parted(0, 31, 0));
        badApart("row", () -> x.row(0, 31, 0, 0));
        bad("knot", () -> x.knot(0));
        bad("counted", () -> x.counted(0, 1));
        badApart("partings", () -> x.partings(0, 3));
        bad("together", () -> x.together(0, 0, 1));
        bad("soonest", () -> x.soonest(4));
        badApart("at", () -> x.at(0, 0, 0));
        bad("never", () -> x.never(4));
        bad("hired", () -> x.hired(4, false));
        bad("last", () -> x.last(4, 0));
        bad("still", () -> x.still(4));
        bad("tables", () -> x.tables(0, 0, 1, 1, 0));
        bad("company", () -> x.company(0));
        bad("put", () -> x.put(2, 1));
        bad("ferry", () -> x.ferry(0, 2));
        bad("part", () -> x.part(2));
        bad("image", () -> x.image(2));
        bad("from", () -> x.from(2));
        refused("status", -1, BAD, () -> x.status(-1));
        bad("count", () -> x.count(7));
        due("status(0)", x.status(0), 28);
    }

    private static void refusals() {
        sentence(32, "Refused, changing nothing but STATUS,", () -> {
            fill();
            people(5, 0, 0);
            knots(1, 1, 1, 1, 1, 1, 1, 1);
            companies(1, 1, 1, 1, 1, 1, 1, 1);
            for (int i = 0; i < 4; i++) {
                x.counted(0, 1);
            }
            type(times(200, " "));
            x.image(0);
            long full = x.digest();
            List<IntSupplier> calls = new ArrayList<>();
            calls.add(() -> x.told(1048576));
            calls.add(() -> x.way(0, 1, true));
            calls.add(() -> x.way(0, 3, false));
            calls.add(() -> x.way(2, 2, true));
            calls.add(() -> x.one(1, 1));
            calls.add(() -> x.type(0x3b3b3b3b3b3b3b3bL, 8));
            calls.add(() -> x.knot(9));
            calls.add(() -> x.counted(1, 3));
            calls.add(() -> x.together(PRIMES, 0, 1));
            calls.add(() -> x.together(PRIMES, 1, 1));
            calls.add(() -> x.last(1, 100));
            calls.add(() -> x.last(4, 1));
            calls.add(() -> x.company(20));
            calls.add(() -> x.put(0, 0));
            calls.add(() -> x.put(1, 4));
            calls.add(() -> x.image(2));
            calls.add(() -> x.from(1));
            for (int i = 0; i < calls.size(); i++) {
                due("call " + i + " is refused", calls.get(i).getAsInt() < 0 ? 1 : 0, 1);
                due("digest() behind call " + i, x.digest(), full);
            }
            due("refused in all", x.status(0) + x.status(1) + x.status(2) - refusedAhead(), calls.size());
            due("from(0)", x.from(0), 1);
            due("digest() of the image", x.digest(), full);
        });
    }

    /** By fill: of five people, eight knots, eight companies, four counts and 200 bytes some were too many. */
    private static int refusedAhead() {
        int people = 3;
        int knots = 2;
        int companies = 2;
        int counts = 1;
        // 163 are left, and go in by eights: the last five of them are too many.
        int types = 5;
        return people + knots + companies + counts + types;
    }

    private static void order() {
        sentence(32, "the first of: BAD -2 a number is not as told; NO -3 as told; FULL -4", () -> {
            bad("BAD, NO: a WAY of one CORNER, that is not", () -> x.way(1, 1, false));
            bad("BAD, NO: an IMAGE that is none", () -> x.from(2));
            knots(1, 3);
            bad("BAD, NO: alike, no PARTING", () -> x.together(PRIMES, 0, 0));
            x.one(0, 1);
            badApart("BAD, NO: no hour, never", () -> x.at(PRIMES, -1, 0));
            fresh();
            people(5, 0, 0);
            bad("BAD, FULL: no CORNER, five", () -> x.one(0, 4));
            type(times(200, " "));
            bad("BAD, FULL: nine bytes, no room", () -> x.type(0, 9));
            knots(1, 1, 1, 1, 1, 1, 1, 1);
            bad("BAD, FULL: ten, eight KNOTS", () -> x.knot(10));
            for (int i = 0; i < 4; i++) {
                x.counted(0, 1);
            }
            bad("BAD, FULL: no KNOT, four times", () -> x.counted(8, 1));
            companies(1, 1, 1, 1, 1, 1, 1, 1);
            bad("BAD, FULL: 21, eight companies", () -> x.company(21));
        });
    }

    private static void statusAnswers() {
        sentence(32, "STATUS: BAD (0), NO (1), FULL (2).", () -> {
            x.told(-1);
            x.told(-1);
            x.told(-1);
            x.from(0);
            x.from(0);
            people(6, 0, 0);
            due("status(0)", x.status(0), 3);
            due("status(1)", x.status(1), 2);
            due("status(2)", x.status(2), 1);
        });
        sentence(32, "-1: another what (counts as BAD).", () -> {
            outside("status", 0, 2, -1, v -> x.status(v));
            due("status(0)", x.status(0), 4);
        });
    }

    private static void count() {
        sentence(33, "How many: 0 WAYS, 1 PEOPLE, 2 gos, 3 bytes of THE DAY, 4 KNOTS, 5 COUNTED, 6 companies.", () -> {
            fill();
            int[] counts = {2, 3, 1, 37, 2, 1, 2};
            for (int what = 0; what < 7; what++) {
                due("count(" + what + ")", x.count(what), counts[what]);
            }
            for (int a = 0; a < 4; a++) {
                for (int b = 0; b < a; b++) {
                    x.way(a, b, true);
                }
            }
            people(5, 0, 0);
            knots(1, 1, 1, 1, 1, 1, 1, 1);
            companies(1, 1, 1, 1, 1, 1, 1, 1);
            for (int i = 0; i < 4; i++) {
                x.counted(0, 1);
            }
            for (int i = 0; i < 200; i++) {
                x.type(';', 1);
            }
            int[] most = {6, 5, 1, 200, 8, 4, 8};
            for (int what = 0; what < 7; what++) {
                due("count(" + what + ") when full", x.count(what), most[what]);
            }
        });
        sentence(33, "BAD.", () -> {
            outside("count", 0, 6, v -> x.count(v));
            fill();
            outside("count", 0, 6, v -> x.count(v));
        });
    }

    private static final long[] NO_WAYS = {0, 0, 0, 0, 0, 0};
    private static final long[] END = {0, 0, 0, 0, 10, 0, 0, 1};

    private static void digest() {
        sentence(34, "h = 619; then h = 31 h + v for each v: count(0) to count(6);", () -> {
            due("new", x.digest(), digestOf(joined(row(0, 0, 0, 0, 0, 0, 0, 6), NO_WAYS, END)));
            fill();
            long[] counts = {2, 3, 1, 37, 2, 1, 2, 5};
            long[] land = {1, 0, 1, 0, 0, 0, 0, 1, 0, 1, 3, 2, 3, 0, 1, 3};
            long[] text = DAY.chars().asLongStream().toArray();
            long[] rest = {1, 2, 1, 3, 0, 0, 0, 44, 7, 5, 20, 2, 0, 1};
            due("full", x.digest(), digestOf(joined(counts, land, text, rest)));
        });
        sentence(34, "RULE 3 as bits;", () -> {
            x.told(1048575);
            due("all", x.digest(), digestOf(joined(row(0, 0, 0, 0, 0, 0, 0, 1048575), NO_WAYS, END)));
            x.told(0);
            due("none", x.digest(), digestOf(joined(new long[8], NO_WAYS, END)));
        });
        sentence(34, "WAYS of CORNERS to all lesser ones (1, 0);", () -> {
            int[][] pairs = {{1, 0}, {2, 0}, {2, 1}, {3, 0}, {3, 1}, {3, 2}};
            for (int i = 0; i < pairs.length; i++) {
                fresh();
                x.way(pairs[i][1], pairs[i][0], true);
                long[] ways = new long[6];
                ways[i] = 1;
                due("way " + pairs[i][0] + " " + pairs[i][1], x.digest(), digestOf(joined(row(1, 0, 0, 0, 0, 0, 0, 6), ways, END)));
            }
        });
        sentence(34, "of PEOPLE START, HOME;", () -> {
            x.one(1, 2);
            x.one(3, 0);
            due("two", x.digest(), digestOf(joined(row(0, 2, 0, 0, 0, 0, 0, 6), NO_WAYS, row(1, 2, 3, 0), END)));
        });
    }

    private static void digestOfDays() {
        sentence(34, "of gos hour, a, b, PEOPLE as bits;", () -> {
            due("read", read(times(5, "one0 3;") + "go5 1 2 4 0;go23 3 3 1 2 3;"), 2);
            x.clear();
            long[] people = {0, 3, 0, 3, 0, 3, 0, 3, 0, 3};
            long[] gos = {5, 1, 2, 17, 23, 3, 3, 14};
            due("two", x.digest(), digestOf(joined(row(0, 5, 2, 0, 0, 0, 0, 6), NO_WAYS, people, gos, END)));
        });
        sentence(34, "bytes of THE DAY;", () -> {
            x.type(0x00ff80417f010020L, 8);
            long[] bytes = {0, 255, 128, 65, 127, 1, 0, 32};
            due("eight", x.digest(), digestOf(joined(row(0, 0, 0, 8, 0, 0, 0, 6), NO_WAYS, bytes, END)));
            x.clear();
            // So many that the digest goes around a long again and again.
            long[] many = new long[200];
            for (int i = 0; i < 25; i++) {
                x.type(-1, 8);
            }
            java.util.Arrays.fill(many, 255);
            due("200", x.digest(), digestOf(joined(row(0, 0, 0, 200, 0, 0, 0, 6), NO_WAYS, many, END)));
        });
    }

    private static void digestOfCrowds() {
        sentence(34, "KNOTS;", () -> {
            knots(4, 9, 1);
            due("three", x.digest(), digestOf(joined(row(0, 0, 0, 0, 3, 0, 0, 6), NO_WAYS, row(4, 9, 1), END)));
        });
        sentence(34, "of COUNTED KNOT, s;", () -> {
            knots(4, 9);
            x.counted(1, 72);
            x.counted(0, 5);
            due("two", x.digest(), digestOf(joined(row(0, 0, 0, 0, 2, 2, 0, 6), NO_WAYS, row(4, 9, 1, 72, 0, 5), END)));
        });
        sentence(34, "LASTS of CORNERS;", () -> {
            for (int corner = 0; corner < 4; corner++) {
                x.last(corner, 96 + corner);
            }
            due("four", x.digest(), digestOf(joined(row(0, 0, 0, 0, 0, 0, 0, 6), NO_WAYS, row(96, 97, 98, 99, 10, 0, 0, 1))));
        });
        sentence(34, "companies;", () -> {
            companies(20, 1);
            due("two", x.digest(), digestOf(joined(row(0, 0, 0, 0, 0, 0, 2, 6), NO_WAYS, row(0, 0, 0, 0, 20, 1, 10, 0, 0, 1))));
        });
        sentence(34, "ROOM, CREW;", () -> {
            x.put(0, 60);
            x.put(1, 3);
            due("both", x.digest(), digestOf(joined(row(0, 0, 0, 0, 0, 0, 0, 6), NO_WAYS, row(0, 0, 0, 0, 60, 3, 0, 1))));
        });
        sentence(34, "THE FRACTION.", () -> {
            knots(1, 1, 1);
            x.told(7);
            x.together(TOLD, 0, 1);
            x.untie();
            x.told(6);
            due("2 by 5", x.digest(), digestOf(joined(row(0, 0, 0, 0, 0, 0, 0, 6), NO_WAYS, row(0, 0, 0, 0, 10, 0, 2, 5))));
            x.told(-1);
            x.image(0);
            due("STATUS and IMAGES are none of it", x.digest(), digestOf(joined(row(0, 0, 0, 0, 0, 0, 0, 6), NO_WAYS, row(0, 0, 0, 0, 10, 0, 2, 5))));
        });
    }
}
