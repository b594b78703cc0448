/** Promises 1 to 7: a new object, rules, corners, ways, people, bytes. */
final class LandSentences extends Sentences {
    private LandSentences() {
    }

    static void all() {
        newObject();
        told();
        allowed();
        way();
        one();
        type();
        clear();
    }

    private static void newObject() {
        sentence(1, "An object is used for at most 512 calls after it has been made;", () -> {
            for (int call = 1; call < 512; call++) {
                due("way(), call " + call, x.way(0, 1, call % 2 == 1), 1);
            }
            due("count(0), call 512", x.count(0), 1);
        });
        sentence(1, "As told; no WAYS, no PEOPLE.", () -> {
            for (int what = 0; what < 7; what++) {
                due("count(" + what + ")", x.count(what), 0);
            }
            for (int what = 0; what < 3; what++) {
                due("status(" + what + ")", x.status(what), 0);
            }
            for (int corner = 0; corner < 4; corner++) {
                int c = corner;
                due("last(" + c + ", 0)", x.last(c, 0), 0);
                due("still(" + c + ")", x.still(c), 0);
                for (int to = 0; to < c; to++) {
                    int b = to;
                    no("no way", () -> x.way(c, b, false));
                }
            }
            bad("ends(0)", () -> x.ends(0));
            bad("counted(0, 1)", () -> x.counted(0, 1));
            no("from(0)", () -> x.from(0));
            no("from(1)", () -> x.from(1));
            due("read()", x.read(), 0);
            due("clear()", x.clear(), 0);
            due("untie()", x.untie(), 0);
            due("disperse()", x.disperse(), 0);
            due("told(0)", x.told(0), 6);
            due("put(0, 1)", x.put(0, 1), 10);
            due("put(1, 1)", x.put(1, 1), 0);
            fraction(0, 1);
            due("NONE", OnlyPrimes.NONE, -1);
            due("BAD", OnlyPrimes.BAD, -2);
            due("NO", OnlyPrimes.NO, -3);
            due("FULL", OnlyPrimes.FULL, -4);
        });
    }

    private static void told() {
        sentence(2, "RULE 3 is told as bits (0 .. 1048575): what it was.", () -> {
            due("told(0)", x.told(0), 6);
            due("told(1048575)", x.told(1048575), 0);
            due("told(524288)", x.told(524288), 1048575);
            due("told(1)", x.told(1), 524288);
            due("told(1) again", x.told(1), 1);
        });
        sentence(2, "BAD.", () -> {
            x.told(1048575);
            outside("told", 0, 1048575, v -> x.told(v));
            bad("told(1048576 * 2 + 1)", () -> x.told(2097153));
            due("told(0)", x.told(0), 1048575);
        });
        sentence(2, "3 TOLD: a set of 1 .. 20 (bits 0 .. 19 for 1 .. 20;", () -> {
            for (int bit = 0; bit < 20; bit++) {
                x.told(1 << bit);
                for (int n = 1; n <= 20; n++) {
                    due("bit " + bit + ", allowed(3, " + n + ")", x.allowed(TOLD, n), n == bit + 1 ? 1 : 0);
                }
            }
        });
        sentence(3, "none above;", () -> {
            x.told(1048575);
            due("allowed(3, 20)", x.allowed(TOLD, 20), 1);
            for (int n = 21; n <= 99; n++) {
                due("allowed(3, " + n + ")", x.allowed(TOLD, n), 0);
            }
        });
        sentence(2, "2 and 3 at first).", () -> {
            for (int n = 1; n <= 99; n++) {
                due("allowed(3, " + n + ")", x.allowed(TOLD, n), n == 2 || n == 3 ? 1 : 0);
            }
            due("told(6)", x.told(6), 6);
        });
    }

    private static void allowed() {
        sentence(3, "99) are ALLOWED by", () -> {
            x.told(1);
            int[] one = {0, 1, 0, 1};
            for (int rule = 0; rule < 4; rule++) {
                int r = rule;
                due("allowed(" + r + ", 1)", x.allowed(r, 1), one[r]);
                due("allowed(" + r + ", 99)", x.allowed(r, 99), 0);
                bad("allowed(" + r + ", 0)", () -> x.allowed(r, 0));
                bad("allowed(" + r + ", 100)", () -> x.allowed(r, 100));
            }
            due("allowed(2, 98)", x.allowed(EVEN, 98), 1);
            due("allowed(0, 97)", x.allowed(PRIMES, 97), 1);
        });
        sentence(3, "0 PRIMES: n is prime;", () -> {
            String primes = " 2 3 5 7 11 13 17 19 23 29 31 37 41 43 47 53 59 61 67 71 73 79 83 89 97 ";
            for (int n = 1; n <= 99; n++) {
                due("allowed(0, " + n + ")", x.allowed(PRIMES, n), primes.contains(" " + n + " ") ? 1 : 0);
            }
        });
        sentence(3, "1 SQUARES: n is 1, 4, 9, ..;", () -> {
            String squares = " 1 4 9 16 25 36 49 64 81 ";
            for (int n = 1; n <= 99; n++) {
                due("allowed(1, " + n + ")", x.allowed(SQUARES, n), squares.contains(" " + n + " ") ? 1 : 0);
            }
        });
        sentence(3, "2 EVEN: n is even;", () -> {
            for (int n = 1; n <= 99; n++) {
                due("allowed(2, " + n + ")", x.allowed(EVEN, n), n % 2 == 0 ? 1 : 0);
            }
        });
        sentence(3, "Whether n are ALLOWED: 1, 0.", () -> {
            due("allowed(0, 2)", x.allowed(PRIMES, 2), 1);
            due("allowed(1, 2)", x.allowed(SQUARES, 2), 0);
            due("allowed(2, 2)", x.allowed(EVEN, 2), 1);
            notSo("allowed(3, 4)", 0, () -> x.allowed(TOLD, 4));
        });
        sentence(3, "BAD.", () -> {
            for (int n : new int[] {1, 99}) {
                outside("allowed(rule, " + n + ")", 0, 3, v -> x.allowed(v, n));
            }
            for (int rule = 0; rule < 4; rule++) {
                int r = rule;
                outside("allowed(" + r + ", n)", 1, 99, v -> x.allowed(r, v));
            }
            bad("allowed(4, 100)", () -> x.allowed(4, 100));
        });
    }

    private static void way() {
        sentence(4, "THE LAND: CORNERS 0 .. 3;", () -> {
            due("way(0, 3, true)", x.way(0, 3, true), 1);
            due("one(0, 3)", x.one(0, 3), 0);
            due("last(0, 1)", x.last(0, 1), 0);
            due("last(3, 1)", x.last(3, 1), 0);
            bad("way(-1, 3, true)", () -> x.way(-1, 3, true));
            bad("way(0, 4, true)", () -> x.way(0, 4, true));
        });
        sentence(4, "WAYS between two of them, either way, or none", () -> {
            int ways = 0;
            for (int a = 0; a < 4; a++) {
                for (int b = a + 1; b < 4; b++) {
                    int from = a;
                    int to = b;
                    due("way(" + a + ", " + b + ", true)", x.way(a, b, true), 1);
                    ways++;
                    due("count(0)", x.count(0), ways);
                    no("the same from the other end", () -> x.way(to, from, true));
                }
            }
            due("no way(2, 1)", x.way(2, 1, false), 1);
            no("none from the other end", () -> x.way(1, 2, false));
            due("count(0)", x.count(0), 5);
        });
        sentence(4, "(none at first;", () -> {
            due("count(0)", x.count(0), 0);
            for (int a = 0; a < 4; a++) {
                for (int b = 0; b < 4; b++) {
                    int from = a;
                    int to = b;
                    if (a != b) {
                        no("way(" + a + ", " + b + ", false)", () -> x.way(from, to, false));
                    }
                }
            }
        });
        sentence(4, "A WAY, or none: 1.", () -> {
            due("way(2, 3, true)", x.way(2, 3, true), 1);
            due("count(0)", x.count(0), 1);
            due("way(3, 2, false)", x.way(3, 2, false), 1);
            due("count(0)", x.count(0), 0);
            due("way(3, 2, true)", x.way(3, 2, true), 1);
            due("count(0)", x.count(0), 1);
        });
        sentence(4, "BAD: alike, too;", () -> {
            for (int corner = 0; corner < 4; corner++) {
                int c = corner;
                bad("way(" + c + ", " + c + ", true)", () -> x.way(c, c, true));
                bad("way(" + c + ", " + c + ", false)", () -> x.way(c, c, false));
            }
            outside("way(a, 1, true)", 0, 3, v -> x.way(v, 1, true));
            outside("way(a, 1, false)", 0, 3, v -> x.way(v, 1, false));
            outside("way(2, b, true)", 0, 3, v -> x.way(2, v, true));
            outside("way(2, b, false)", 0, 3, v -> x.way(2, v, false));
            outside("both alike", 0, 3, v -> x.way(v, v, true));
            bad("way(-4, 4, true)", () -> x.way(-4, 4, true));
        });
        sentence(4, "NO: it is so.", () -> {
            no("way(0, 1, false)", () -> x.way(0, 1, false));
            x.way(0, 1, true);
            no("way(0, 1, true)", () -> x.way(0, 1, true));
            no("way(1, 0, true)", () -> x.way(1, 0, true));
            no("way(0, 2, false)", () -> x.way(0, 2, false));
            x.way(1, 0, false);
            no("way(0, 1, false)", () -> x.way(0, 1, false));
            no("way(1, 0, false)", () -> x.way(1, 0, false));
        });
    }

    private static void one() {
        sentence(5, "PEOPLE 0 .. 4, as they come:", () -> {
            for (int i = 0; i < 5; i++) {
                due("one(" + i % 4 + ", 0)", x.one(i % 4, 0), i);
            }
            for (int i = 0; i < 5; i++) {
                due("ends(" + i + ")", x.ends(i), i % 4);
            }
            bad("ends(5)", () -> x.ends(5));
        });
        sentence(5, "START, HOME (CORNERS).", () -> {
            due("one(0, 3)", x.one(0, 3), 0);
            due("one(3, 0)", x.one(3, 0), 1);
            due("ends(0)", x.ends(0), 0);
            due("ends(1)", x.ends(1), 3);
            due("never(1)", x.never(SQUARES), 3);
            x.way(3, 0, true);
            due("soonest(1)", x.soonest(SQUARES), 1);
            due("at(1, 1, 0)", x.at(SQUARES, 1, 0), 3);
            due("at(1, 1, 1)", x.at(SQUARES, 1, 1), 0);
        });
        sentence(5, "One of PEOPLE: the number.", () -> {
            due("one(2, 2)", x.one(2, 2), 0);
            due("one(2, 2)", x.one(2, 2), 1);
            due("count(1)", x.count(1), 2);
            due("read", read("one 0 0;one 1 1;one 2 2;"), 0);
            due("one behind three that were read", x.one(3, 3), 3);
        });
        sentence(5, "BAD;", () -> {
            outside("one(start, 0)", 0, 3, v -> x.one(v, 0));
            outside("one(0, home)", 0, 3, v -> x.one(0, v));
            bad("one(4, -1)", () -> x.one(4, -1));
            people(5, 0, 0);
            bad("one(4, 0), full, too", () -> x.one(4, 0));
            bad("one(0, -1), full, too", () -> x.one(0, -1));
        });
        sentence(5, "FULL: 5.", () -> {
            people(4, 1, 2);
            due("the fifth", x.one(3, 3), 4);
            full("the sixth", () -> x.one(0, 0));
            full("and again", () -> x.one(3, 3));
            land(times(5, "one 0 1;"));
            full("five that were read", () -> x.one(0, 0));
            land(times(4, "one 0 1;"));
            due("behind four that were read", x.one(0, 0), 4);
        });
    }

    private static void type() {
        sentence(6, "THE DAY is a TEXT (200 bytes at most)", () -> {
            for (int bytes = 8; bytes <= 200; bytes += 8) {
                due("type(0, 8)", x.type(0, 8), bytes);
            }
            due("count(3)", x.count(3), 200);
            full("byte 201", () -> x.type(32, 1));
            due("clear()", x.clear(), 200);
            due("as many again", type(times(200, " ")), 200);
            due("read()", x.read(), 0);
        });
        sentence(6, "The lowest n (1 .. 8) bytes of v, the highest of them first, come to THE DAY: how many it has.", () -> {
            long[] bytes = {0xf1, 0x82, 3, 4, 0x75, 6, 0xff, 8};
            for (int n = 1; n <= 8; n++) {
                due("clear()", x.clear(), n == 1 ? 0 : n - 1);
                due("type(v, " + n + ")", x.type(0xf1820304_7506ff08L, n), n);
                long[] typed = java.util.Arrays.copyOfRange(bytes, 8 - n, 8);
                long[] want = joined(row(0, 0, 0, n, 0, 0, 0, 6, 0, 0, 0, 0, 0, 0), typed, row(0, 0, 0, 0, 10, 0, 0, 1));
                due("digest() of " + n, x.digest(), digestOf(want));
            }
            due("of -1 a byte", x.type(-1, 1), 9);
            due("of the least long a byte", x.type(Long.MIN_VALUE, 8), 17);
            x.clear();
            due("one word", x.type(0x776179L, 3), 3);
            due("two corners", x.type(0x00203120323bL, 5), 8);
            due("read() of way 1 2;", x.read(), 0);
            due("count(0)", x.count(0), 1);
        });
        sentence(6, "BAD;", () -> {
            outside("type(0, n)", 1, 8, v -> x.type(0, v));
            outside("type(-1, n)", 1, 8, v -> x.type(-1, v));
            type(times(200, " "));
            outside("type(0, n) when full, too", 1, 8, v -> x.type(0, v));
        });
        sentence(6, "FULL.", () -> {
            type(times(196, "a"));
            for (int n = 5; n <= 8; n++) {
                int more = n;
                full("type(0, " + n + ") when 4 are left", () -> x.type(0, more));
            }
            due("type(0, 4)", x.type(0, 4), 200);
            full("type(0, 1) when none is left", () -> x.type(0, 1));
            full("type(0, 8) when none is left", () -> x.type(0, 8));
        });
    }

    private static void clear() {
        sentence(7, "THE DAY is empty: how many it had (what was read stays).", () -> {
            due("an empty one", x.clear(), 0);
            due("read", read("way 0 1;one 0 1;go 3 0 1 0;"), 1);
            due("clear()", x.clear(), 27);
            due("count(3)", x.count(3), 0);
            due("clear() again", x.clear(), 0);
            due("ways stay", x.count(0), 1);
            due("people stay", x.count(1), 1);
            due("gos stay", x.count(2), 1);
            due("judged(1)", x.judged(SQUARES), -1);
            due("ends(0)", x.ends(0), 1);
            due("type", x.type(';', 1), 1);
            type(times(199, " "));
            due("a full one", x.clear(), 200);
        });
    }
}
