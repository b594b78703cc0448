/** Promises 11 to 17: crowds that are parted, knots, what was counted. */
final class CrowdSentences extends Sentences {
    /** All of 1 .. 20 are told. */
    private static final int ALL = 1048575;

    private CrowdSentences() {
    }

    static void all() {
        parted();
        partedAnswers();
        rows();
        rowAnswers();
        knot();
        untie();
        counted();
        partings();
        partingsAnswers();
        together();
    }

    private static void parted() {
        sentence(11, "PARTED: a crowd of n (0 .. 30)", () -> {
            for (int rule = 0; rule < 4; rule++) {
                due("parted(" + rule + ", 0, 0)", x.parted(rule, 0, 0), 1);
                due("parted(" + rule + ", 0, 1)", x.parted(rule, 0, 1), 0);
                due("parted(" + rule + ", 0, 2)", x.parted(rule, 0, 2), 0);
            }
            due("parted(2, 30, 0)", x.parted(EVEN, 30, 0), 176);
            due("parted(2, 30, 1)", x.parted(EVEN, 30, 1), 1);
            due("parted(2, 30, 2)", x.parted(EVEN, 30, 2), 15);
            due("parted(1, 30, 2)", x.parted(SQUARES, 30, 2), 30);
            badApart("parted(0, -1, 0)", () -> x.parted(PRIMES, -1, 0));
            badApart("parted(0, 31, 0)", () -> x.parted(PRIMES, 31, 0));
        });
        sentence(11, "into companies that are ALLOWED:", () -> {
            due("parted(0, 1, 0)", x.parted(PRIMES, 1, 0), 0);
            due("parted(2, 29, 0)", x.parted(EVEN, 29, 0), 0);
            due("parted(1, 3, 0)", x.parted(SQUARES, 3, 0), 1);
            due("parted(1, 4, 0)", x.parted(SQUARES, 4, 0), 2);
            x.told(bits(3));
            due("3 alone, of 30", x.parted(TOLD, 30, 0), 1);
            due("3 alone, of 29", x.parted(TOLD, 29, 0), 0);
            x.told(bits(20));
            due("20 alone, of 30", x.parted(TOLD, 30, 0), 0);
            due("20 alone, of 20", x.parted(TOLD, 20, 0), 1);
            x.told(0);
            due("none at all, of 1", x.parted(TOLD, 1, 0), 0);
            due("none at all, of 30", x.parted(TOLD, 30, 0), 0);
        });
        sentence(11, "how many rows;", () -> {
            int[] byPrimes = {1, 0, 1, 1, 1, 2, 2, 3, 3, 4, 5, 6, 7};
            for (int n = 0; n < byPrimes.length; n++) {
                due("parted(0, " + n + ", 0)", x.parted(PRIMES, n, 0), byPrimes[n]);
            }
            x.told(ALL);
            int[] byAll = {1, 1, 2, 3, 5, 7, 11, 15, 22, 30, 42};
            for (int n = 0; n < byAll.length; n++) {
                due("parted(3, " + n + ", 0)", x.parted(TOLD, n, 0), byAll[n]);
                // As many ways as half of them have.
                due("parted(2, " + 2 * n + ", 0)", x.parted(EVEN, 2 * n, 0), byAll[n]);
            }
            due("parted(3, 20, 0)", x.parted(TOLD, 20, 0), 627);
            // 5604 in all, less those with one of 21 to 30: 1, 1, 2, 3, 5, 7, 11, 15, 22, 30 for the rest.
            due("parted(3, 30, 0)", x.parted(TOLD, 30, 0), 5604 - 97);
        });
        sentence(11, "the fewest, the most companies of one;", () -> {
            x.told(bits(4, 9, 10));
            due("9 9 of 18", x.parted(TOLD, 18, 1), 2);
            due("4 4 10 of 18", x.parted(TOLD, 18, 2), 3);
            due("4 4 4 of 12", x.parted(TOLD, 12, 1), 3);
            due("4 4 4 of 12", x.parted(TOLD, 12, 2), 3);
            due("4 4 4 of 12 by squares", x.parted(SQUARES, 12, 1), 3);
            due("twelve of one by squares", x.parted(SQUARES, 12, 2), 12);
            x.told(bits(3, 5));
            due("5 5 5", x.parted(TOLD, 15, 1), 3);
            due("3 3 3 3 3", x.parted(TOLD, 15, 2), 5);
            x.told(bits(1));
            due("thirty of one", x.parted(TOLD, 30, 1), 30);
        });
    }

    private static void partedAnswers() {
        sentence(11, "PARTED: how many rows (what = 0), fewest (1), most (2) companies (NONE: no row).", () -> {
            due("parted(0, 12, 0)", x.parted(PRIMES, 12, 0), 7);
            due("parted(0, 12, 1)", x.parted(PRIMES, 12, 1), 2);
            due("parted(0, 12, 2)", x.parted(PRIMES, 12, 2), 6);
            notSo("parted(0, 1, 0)", 0, () -> x.parted(PRIMES, 1, 0));
            notSo("parted(0, 1, 1)", -1, () -> x.parted(PRIMES, 1, 1));
            notSo("parted(0, 1, 2)", -1, () -> x.parted(PRIMES, 1, 2));
            notSo("parted(2, 29, 1)", -1, () -> x.parted(EVEN, 29, 1));
            notSo("parted(2, 29, 2)", -1, () -> x.parted(EVEN, 29, 2));
        });
        sentence(11, "BAD: -10.", () -> {
            for (int what = 0; what < 3; what++) {
                int w = what;
                outside("parted(rule, 3, " + w + ")", 0, 3, -10, v -> x.parted(v, 3, w));
                outside("parted(0, n, " + w + ")", 0, 30, -10, v -> x.parted(PRIMES, v, w));
            }
            outside("parted(0, 3, what)", 0, 2, -10, v -> x.parted(PRIMES, 3, v));
            badApart("parted(4, 31, 3)", () -> x.parted(4, 31, 3));
        });
    }

    private static void hasRows(int rule, int n, int[][] rows) {
        due("parted(" + rule + ", " + n + ", 0)", x.parted(rule, n, 0), rows.length);
        for (int i = 0; i < rows.length; i++) {
            for (int k = 0; k < rows[i].length; k++) {
                due("row(" + rule + ", " + n + ", " + i + ", " + k + ")", x.row(rule, n, i, k), rows[i][k]);
            }
            due("behind the end of row " + i, x.row(rule, n, i, rows[i].length), -5);
        }
        due("behind the last row", x.row(rule, n, rows.length, 0), -5);
    }

    private static void rows() {
        sentence(12, "rows of sizes, none less than the one ahead:", () -> {
            hasRows(EVEN, 8, new int[][] {{2, 2, 2, 2}, {2, 2, 4}, {2, 6}, {4, 4}, {8}});
            fresh();
            x.told(ALL);
            for (int i = 0; i < 42; i++) {
                for (int k = 1; x.row(TOLD, 10, i, k) > 0 && k < 10; k++) {
                    Check.holds("promise 12, row " + i + " of 10, size " + k, x.row(TOLD, 10, i, k) >= x.row(TOLD, 10, i, k - 1));
                }
            }
        });
        sentence(12, "the i-th row (by sizes in their order, the first size least first).", () -> {
            hasRows(PRIMES, 10, new int[][] {{2, 2, 2, 2, 2}, {2, 2, 3, 3}, {2, 3, 5}, {3, 7}, {5, 5}});
            hasRows(SQUARES, 9, new int[][] {{1, 1, 1, 1, 1, 1, 1, 1, 1}, {1, 1, 1, 1, 1, 4}, {1, 4, 4}, {9}});
            x.told(bits(1, 2, 3, 10));
            hasRows(TOLD, 5, new int[][] {{1, 1, 1, 1, 1}, {1, 1, 1, 2}, {1, 1, 3}, {1, 2, 2}, {2, 3}});
            x.told(bits(2, 10, 20));
            // 2 ahead of 10, and 10 ahead of 20, whatever figures they begin with.
            due("the last row of 30", x.row(TOLD, 30, x.parted(TOLD, 30, 0) - 1, 0), 10);
            due("the last row of 30", x.row(TOLD, 30, x.parted(TOLD, 30, 0) - 1, 1), 20);
        });
    }

    private static void rowAnswers() {
        sentence(12, "Size k (0 on) of the i-th row (0 on).", () -> {
            x.told(ALL);
            due("the first size of the first row", x.row(TOLD, 30, 0, 0), 1);
            due("the last size of the first row", x.row(TOLD, 30, 0, 29), 1);
            due("the first size of the last row", x.row(TOLD, 30, 5506, 0), 15);
            due("the last size of the last row", x.row(TOLD, 30, 5506, 1), 15);
            due("the row ahead of it", x.row(TOLD, 30, 5505, 0), 14);
            due("the row ahead of it", x.row(TOLD, 30, 5505, 1), 16);
            due("row(3, 1, 0, 0)", x.row(TOLD, 1, 0, 0), 1);
        });
        sentence(12, "-5: no such row, no such size.", () -> {
            notSo("no row of 1", -5, () -> x.row(PRIMES, 1, 0, 0));
            notSo("no size of none", -5, () -> x.row(PRIMES, 0, 0, 0));
            notSo("no second row of none", -5, () -> x.row(PRIMES, 0, 1, 0));
            notSo("row 5 of 5", -5, () -> x.row(PRIMES, 10, 5, 0));
            notSo("row 6 of 5", -5, () -> x.row(PRIMES, 10, 6, 0));
            notSo("size 2 of 5 5", -5, () -> x.row(PRIMES, 10, 4, 2));
            notSo("size 5 of 2 2 2 2 2", -5, () -> x.row(PRIMES, 10, 0, 5));
            notSo("a row far behind", -5, () -> x.row(PRIMES, 10, HIGH, 0));
            notSo("a size far behind", -5, () -> x.row(PRIMES, 10, 0, HIGH));
            notSo("both far behind", -5, () -> x.row(EVEN, 30, HIGH, HIGH));
            x.told(ALL);
            notSo("size 30 of thirty", -5, () -> x.row(TOLD, 30, 0, 30));
            notSo("row 5507 of 5507", -5, () -> x.row(TOLD, 30, 5507, 0));
        });
        sentence(12, "BAD: -10.", () -> {
            outside("row(rule, 3, 0, 0)", 0, 3, -10, v -> x.row(v, 3, 0, 0));
            outside("row(0, n, 0, 0)", 0, 30, -10, v -> x.row(PRIMES, v, 0, 0));
            for (int v : new int[] {-1, LOW}) {
                badApart("row(0, 3, " + v + ", 0)", () -> x.row(PRIMES, 3, v, 0));
                badApart("row(0, 3, 0, " + v + ")", () -> x.row(PRIMES, 3, 0, v));
                badApart("no row, size " + v, () -> x.row(PRIMES, 1, 0, v));
            }
        });
    }

    private static void knot() {
        sentence(13, "KNOTS 0 .. 7, as they come:", () -> {
            for (int i = 0; i < 8; i++) {
                due("knot(1)", x.knot(1), i);
            }
            due("counted(7, 1)", x.counted(7, 1), 1);
            bad("counted(8, 1)", () -> x.counted(8, 1));
            due("together(1, 7, 0)", x.together(SQUARES, 7, 0), 1);
        });
        sentence(13, "of so many people each (1 .. 9)", () -> {
            bad("knot(0)", () -> x.knot(0));
            bad("knot(10)", () -> x.knot(10));
            due("knot(1)", x.knot(1), 0);
            due("one alone", x.partings(SQUARES, 0), 1);
            due("knot(9)", x.knot(9), 1);
            // 1 and 9 apart; 10 are no square.
            due("nine, too", x.partings(SQUARES, 0), 1);
            due("both", x.partings(EVEN, 0), 1);
            due("both", x.partings(EVEN, 1), 1);
        });
        sentence(13, "A KNOT: its number.", () -> {
            due("knot(5)", x.knot(5), 0);
            due("knot(5)", x.knot(5), 1);
            due("count(4)", x.count(4), 2);
            x.untie();
            due("from 0 again", x.knot(5), 0);
        });
        sentence(13, "BAD;", () -> {
            outside("knot", 1, 9, v -> x.knot(v));
            knots(1, 1, 1, 1, 1, 1, 1, 1);
            outside("knot when full, too", 1, 9, v -> x.knot(v));
        });
        sentence(13, "FULL: 8.", () -> {
            knots(1, 1, 1, 1, 1, 1, 1);
            due("the eighth", x.knot(9), 7);
            full("the ninth", () -> x.knot(1));
            full("and again", () -> x.knot(9));
            due("count(4)", x.count(4), 8);
        });
    }

    private static void untie() {
        sentence(14, "No KNOTS, nothing COUNTED: how many KNOTS there were.", () -> {
            due("none", x.untie(), 0);
            knots(1, 2, 3, 4, 5, 6, 7, 8);
            x.counted(0, 1);
            x.counted(1, 72);
            due("eight", x.untie(), 8);
            due("count(4)", x.count(4), 0);
            due("count(5)", x.count(5), 0);
            due("none again", x.untie(), 0);
            due("partings of none", x.partings(PRIMES, 0), 1);
            bad("counted(0, 1)", () -> x.counted(0, 1));
            knots(5, 5);
            due("nothing COUNTED", x.partings(PRIMES, 0), 1);
            due("two", x.untie(), 2);
        });
    }

    private static void counted() {
        sentence(15, "COUNTED: up to 4 times:", () -> {
            knots(9, 9);
            for (int i = 1; i <= 4; i++) {
                due("counted(0, " + i + ")", x.counted(0, i), i);
            }
            full("a fifth time", () -> x.counted(0, 5));
            full("a fifth time of another one", () -> x.counted(1, 5));
            due("count(5)", x.count(5), 4);
        });
        sentence(15, "the company that KNOT k was in had s people (1 .. 72):", () -> {
            knots(1, 9, 9, 9, 9, 9, 9, 9);
            due("counted(0, 1)", x.counted(0, 1), 1);
            // One alone; seven of nine, of which each one, three or seven together are a prime or not.
            due("one alone is no prime", x.partings(PRIMES, 0), 0);
            due("one alone is a square", x.partings(SQUARES, 2), 8);
            x.untie();
            knots(9, 9, 9, 9, 9, 9, 9, 9);
            due("counted(7, 72)", x.counted(7, 72), 1);
            due("all 72 in one", x.partings(EVEN, 0), 1);
            due("all 72 in one", x.partings(EVEN, 2), 1);
            bad("counted(7, 0)", () -> x.counted(7, 0));
            bad("counted(7, 73)", () -> x.counted(7, 73));
        });
        sentence(15, "COUNTED: how often.", () -> {
            knots(1, 1);
            due("counted(0, 2)", x.counted(0, 2), 1);
            due("the same again", x.counted(0, 2), 2);
            due("of the other one", x.counted(1, 1), 3);
            due("count(5)", x.count(5), 3);
        });
        sentence(15, "BAD;", () -> {
            outside("counted(knot, 1) of none", 0, -1, v -> x.counted(v, 1));
            knots(1, 1, 1);
            outside("counted(knot, 1) of three", 0, 2, v -> x.counted(v, 1));
            outside("counted(0, s)", 1, 72, v -> x.counted(0, v));
            for (int i = 0; i < 4; i++) {
                x.counted(0, 1);
            }
            outside("counted(knot, 1) when full, too", 0, 2, v -> x.counted(v, 1));
            outside("counted(0, s) when full, too", 1, 72, v -> x.counted(0, v));
        });
        sentence(15, "FULL: 4.", () -> {
            knots(1);
            x.counted(0, 1);
            x.counted(0, 1);
            x.counted(0, 1);
            due("the fourth", x.counted(0, 72), 4);
            full("the fifth", () -> x.counted(0, 1));
            x.untie();
            knots(1);
            due("counted behind untie()", x.counted(0, 1), 1);
        });
    }

    private static void partings() {
        sentence(16, "who stay together.", () -> {
            knots(4);
            due("four are no prime, and no two and two", x.partings(PRIMES, 0), 0);
            due("four are a square", x.partings(SQUARES, 0), 1);
            due("four are even", x.partings(EVEN, 2), 1);
        });
        sentence(16, "PARTINGS: of all ways to put KNOTS into companies (sets of KNOTS)", () -> {
            x.told(ALL);
            int[] bell = {1, 1, 2, 5, 15, 52, 203, 877, 4140};
            for (int n = 0; n <= 8; n++) {
                due("all ways of " + n, x.partings(TOLD, 0), bell[n]);
                due("fewest of " + n, x.partings(TOLD, 1), Math.min(n, 1));
                due("most of " + n, x.partings(TOLD, 2), n);
                x.knot(1);
            }
        });
        sentence(16, "those in which all are ALLOWED: how many;", () -> {
            knots(1, 1, 2, 2);
            // {0 1}{2}{3}, {0 2}{1 3}, {0 3}{1 2}.
            due("1 1 2 2 by primes", x.partings(PRIMES, 0), 3);
            x.untie();
            knots(1, 1, 1, 1, 1, 1, 1, 1);
            due("eight of one, sets even", x.partings(EVEN, 0), 379);
            // All alone, four and four alone, four and four.
            due("eight of one, sets of 1 or 4", x.partings(SQUARES, 0), 1 + 70 + 35);
            due("eight of one, sets of 2 or 3", x.partings(TOLD, 0), 105 + 280);
            x.untie();
            knots(9, 9, 9, 9, 9, 9, 9, 9);
            due("more than 20 are not TOLD", x.told(ALL), 6);
            due("nine or eighteen: alone, or in pairs", x.partings(TOLD, 0), 764);
        });
        sentence(16, "the fewest, the most companies;", () -> {
            knots(1, 1, 1, 1, 1, 1, 1, 1);
            due("even, all in one", x.partings(EVEN, 1), 1);
            due("even, in pairs", x.partings(EVEN, 2), 4);
            due("squares, four and four", x.partings(SQUARES, 1), 2);
            due("squares, all alone", x.partings(SQUARES, 2), 8);
            due("primes, 3 and 5", x.partings(PRIMES, 1), 2);
            due("primes, in pairs", x.partings(PRIMES, 2), 4);
            due("told, 3 3 2", x.partings(TOLD, 1), 3);
            x.untie();
            knots(1, 3, 3, 2);
            x.told(bits(2, 3, 7));
            // {0 1 2} {3}, or {0 3} {1} {2}.
            due("both", x.partings(TOLD, 0), 2);
            due("the fewest", x.partings(TOLD, 1), 2);
            due("the most", x.partings(TOLD, 2), 3);
        });
        sentence(16, "only such PARTINGS count then.", () -> {
            knots(1, 1, 2, 2);
            x.counted(0, 3);
            due("0 in a company of three", x.partings(PRIMES, 0), 2);
            due("fewest", x.partings(PRIMES, 1), 2);
            due("most", x.partings(PRIMES, 2), 2);
            x.counted(1, 3);
            due("1, too", x.partings(PRIMES, 0), 2);
            x.counted(3, 2);
            due("3 in one of two", x.partings(PRIMES, 0), 0);
            due("fewest", x.partings(PRIMES, 1), -1);
            x.untie();
            knots(1, 1, 2, 2);
            x.counted(0, 2);
            due("0 in a company of two", x.partings(PRIMES, 0), 1);
            due("most", x.partings(PRIMES, 2), 3);
            x.counted(0, 3);
            due("0 in one of three, too: never", x.partings(PRIMES, 0), 0);
        });
    }

    private static void partingsAnswers() {
        sentence(16, "PARTINGS: how many (0), fewest (1), most (2) companies (NONE: no PARTING).", () -> {
            due("no KNOTS", x.partings(PRIMES, 0), 1);
            due("no KNOTS", x.partings(PRIMES, 1), 0);
            due("no KNOTS", x.partings(PRIMES, 2), 0);
            knots(1);
            notSo("partings(0, 0)", 0, () -> x.partings(PRIMES, 0));
            notSo("partings(0, 1)", -1, () -> x.partings(PRIMES, 1));
            notSo("partings(0, 2)", -1, () -> x.partings(PRIMES, 2));
            knots(1, 2, 2);
            due("partings(0, 0)", x.partings(PRIMES, 0), 3);
            due("partings(0, 1)", x.partings(PRIMES, 1), 2);
            due("partings(0, 2)", x.partings(PRIMES, 2), 3);
        });
        sentence(16, "BAD: -10.", () -> {
            outside("partings(rule, 0)", 0, 3, -10, v -> x.partings(v, 0));
            outside("partings(0, what)", 0, 2, -10, v -> x.partings(PRIMES, v));
            knots(1);
            outside("partings(rule, 0)", 0, 3, -10, v -> x.partings(v, 0));
            outside("partings(0, what)", 0, 2, -10, v -> x.partings(PRIMES, v));
        });
    }

    private static void together() {
        sentence(17, "TOGETHER: the share in which two KNOTS are in one.", () -> {
            knots(1, 1, 1, 1);
            due("in pairs alone", x.together(PRIMES, 0, 1), 1);
            fraction(1, 3);
            due("in pairs, or all in one", x.together(EVEN, 2, 1), 1);
            fraction(1, 2);
            due("all alone, or all in one", x.together(SQUARES, 3, 0), 1);
            fraction(1, 2);
            x.counted(0, 1);
            due("0 was alone", x.together(SQUARES, 3, 0), 1);
            fraction(0, 1);
            x.untie();
            knots(1, 1);
            due("always", x.together(PRIMES, 0, 1), 1);
            fraction(1, 1);
            x.untie();
            x.told(ALL);
            knots(1, 1, 1, 1, 1, 1, 1, 1);
            due("eight in all ways", x.together(TOLD, 0, 7), 1);
            fraction(877, 4140);
        });
        sentence(17, "TOGETHER is THE FRACTION: 1.", () -> {
            knots(1, 1, 1, 1);
            due("together(0, 3, 2)", x.together(PRIMES, 3, 2), 1);
            fraction(1, 3);
            due("together(1, 3, 2)", x.together(SQUARES, 3, 2), 1);
            fraction(1, 2);
        });
        sentence(17, "BAD: alike, too;", () -> {
            bad("no KNOTS", () -> x.together(PRIMES, 0, 1));
            knots(1, 1, 1);
            for (int knot = 0; knot < 3; knot++) {
                int k = knot;
                bad("together(0, " + k + ", " + k + ")", () -> x.together(PRIMES, k, k));
            }
            outside("together(rule, 0, 1)", 0, 3, v -> x.together(v, 0, 1));
            outside("together(0, a, 1)", 0, 2, v -> x.together(PRIMES, v, 1));
            outside("together(0, 1, b)", 0, 2, v -> x.together(PRIMES, 1, v));
            x.untie();
            knots(1, 3);
            due("no PARTING", x.partings(PRIMES, 0), 0);
            bad("alike when there is no PARTING, too", () -> x.together(PRIMES, 1, 1));
            bad("no KNOT when there is no PARTING, too", () -> x.together(PRIMES, 0, 2));
        });
        sentence(17, "NO: no PARTING.", () -> {
            knots(1, 1);
            due("together(0, 0, 1)", x.together(PRIMES, 0, 1), 1);
            no("none by told", () -> {
                x.told(0);
                int answer = x.together(TOLD, 0, 1);
                x.told(6);
                return answer;
            });
            fraction(1, 1);
            x.counted(0, 1);
            no("none as counted", () -> x.together(PRIMES, 0, 1));
            fraction(1, 1);
        });
    }
}
