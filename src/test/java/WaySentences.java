/** Promises 18 to 23: ways for all, hired company, towns that stand still. */
final class WaySentences extends Sentences {
    private WaySentences() {
    }

    static void all() {
        moves();
        soonest();
        rows();
        at();
        never();
        hired();
        last();
        still();
        stillAnswers();
    }

    private static void moves() {
        sentence(18, "each takes an hour).", () -> {
            land("way 0 1;way 1 2;way 2 3;one 0 3;");
            due("three WAYS", x.soonest(SQUARES), 3);
            for (int hour = 0; hour <= 3; hour++) {
                due("at(1, " + hour + ", 0)", x.at(SQUARES, hour, 0), hour);
            }
            x.way(0, 3, true);
            due("one WAY", x.soonest(SQUARES), 1);
            land("way 3 2;way 2 1;way 1 0;one 0 3;");
            due("the other way round", x.soonest(SQUARES), 3);
        });
        sentence(18, "WAYS FOR ALL by a RULE:", () -> {
            land("way 0 1;one 0 1;one 0 1;one 0 1;");
            due("three at once", x.soonest(PRIMES), 1);
            due("one by one", x.soonest(SQUARES), 3);
            due("two alone can go", x.soonest(EVEN), -1);
            due("three are TOLD", x.soonest(TOLD), 1);
            x.told(bits(1, 2));
            due("one, then two", x.soonest(TOLD), 2);
            x.told(0);
            due("nobody can go", x.soonest(TOLD), -1);
        });
        sentence(18, "hour by hour each of PEOPLE stays or goes a WAY;", () -> {
            land("way 0 1;one 0 1;one 0 1;");
            due("one stays while the other goes", x.soonest(SQUARES), 2);
            land("way 0 1;one 0 1;one 0 0;");
            due("one stays at HOME", x.soonest(SQUARES), 1);
            land("way 0 1;way 2 3;one 0 2;");
            due("no WAY to go", x.soonest(SQUARES), -1);
            land("way 0 1;way 1 2;one 0 2;one 2 0;one 1 1;");
            due("two go while one stays", x.soonest(SQUARES), 2);
        });
        sentence(18, "those who go from one CORNER to the same other one in an hour are a company, and must be ALLOWED.", () -> {
            land("way 0 1;one 0 1;one 0 1;one 0 1;one 0 1;");
            due("four by primes: two and two", x.soonest(PRIMES), 2);
            due("four by squares", x.soonest(SQUARES), 1);
            land("way 0 1;" + times(5, "one 0 1;"));
            due("five by primes", x.soonest(PRIMES), 1);
            due("five by squares: four and one", x.soonest(SQUARES), 2);
            for (int n = 1; n <= 5; n++) {
                x.told(bits(n));
                due("five, told " + n, x.soonest(TOLD), n == 1 ? 5 : n == 5 ? 1 : -1);
                x.told(0);
                due("five, none told", x.soonest(TOLD), -1);
            }
            land("way 0 2;way 1 2;one 0 2;one 1 2;");
            due("from two CORNERS to one: two of one", x.soonest(SQUARES), 1);
            due("no company of two", x.soonest(PRIMES), -1);
            land("way 0 1;way 0 2;one 0 1;one 0 2;");
            due("from one CORNER to two: two of one", x.soonest(SQUARES), 1);
            due("no company of two", x.soonest(PRIMES), -1);
            land("way 0 1;one 0 1;one 1 0;");
            due("who meet on a WAY: two of one", x.soonest(SQUARES), 1);
            due("no company of two", x.soonest(PRIMES), -1);
        });
    }

    private static void soonest() {
        sentence(18, "SOONEST: the fewest hours until all are at HOME at once", () -> {
            due("nobody", x.soonest(PRIMES), 0);
            land("one 2 2;one 1 1;");
            due("all are", x.soonest(PRIMES), 0);
            land("way 0 1;one 0 1;one 0 0;one 0 0;");
            // 0 goes in company alone, and who goes with it comes back in company alone: all, then two.
            due("who are at HOME go, too", x.soonest(PRIMES), 2);
            land("way 0 1;one 0 1;one 0 0;");
            due("each at HOME, but never at once", x.soonest(PRIMES), -1);
            due("each at HOME, but never at once", x.never(PRIMES), 0);
            land("way 0 1;way 1 2;way 2 3;one 0 3;one 0 3;one 1 3;one 3 0;one 1 1;");
            due("five", x.soonest(PRIMES), 8);
        });
        sentence(18, "(none: never).", () -> {
            land("way 0 1;one 0 2;");
            notSo("soonest(1)", -1, () -> x.soonest(SQUARES));
            land("way 0 2;one 0 2;");
            notSo("soonest(0)", -1, () -> x.soonest(PRIMES));
            notSo("soonest(2)", -1, () -> x.soonest(EVEN));
        });
        sentence(18, "SOONEST.", () -> {
            land("way 0 1;way 1 2;one 0 2;one 2 0;");
            due("soonest(1)", x.soonest(SQUARES), 2);
            x.way(0, 2, true);
            due("with a WAY more", x.soonest(SQUARES), 1);
            x.way(2, 0, false);
            due("with a WAY less", x.soonest(SQUARES), 2);
            x.one(2, 1);
            due("with one of PEOPLE more", x.soonest(SQUARES), 2);
            due("no gos, nor LASTS, are looked at", x.last(0, 1), 0);
            due("soonest(1)", x.soonest(SQUARES), 2);
            x.image(0);
            land("one 0 0;");
            due("soonest(1)", x.soonest(SQUARES), 0);
            x.from(0);
            due("from an image", x.soonest(SQUARES), 2);
        });
        oneThingChanges();
        sentence(18, "NONE.", () -> {
            x.one(0, 1);
            notSo("no WAYS", -1, () -> x.soonest(SQUARES));
            x.way(0, 1, true);
            notSo("not ALLOWED", -1, () -> x.soonest(PRIMES));
            notSo("but by squares", 1, () -> x.soonest(SQUARES));
        });
        sentence(18, "BAD.", () -> {
            outside("soonest", 0, 3, v -> x.soonest(v));
            x.one(0, 1);
            outside("soonest", 0, 3, v -> x.soonest(v));
        });
    }

    /** Lands that are alike but for one thing, one behind the other, asked of one object. */
    private static void oneThingChanges() {
        String ways = "way0 1;way0 2;way0 3;way1 2;way1 3;way2 3;";
        sentence(18, "SOONEST: the fewest hours until all are at HOME at once", () -> {
            for (int person = 0; person < 5; person++) {
                fresh();
                String ahead = ways + times(person, "one0 0;");
                String behind = times(4 - person, "one0 0;");
                for (int corner = 1; corner < 4; corner++) {
                    x.told(31);
                    land(ahead + "one0 0;" + behind);
                    due("all at HOME", x.soonest(TOLD), 0);
                    land(ahead + "one" + corner + " 0;" + behind);
                    due("one is not", x.soonest(TOLD), 1);
                    due("from START", x.at(TOLD, 0, person), corner);
                    land(ahead + "one0 " + corner + ";" + behind);
                    due("another HOME", x.soonest(TOLD), 1);
                    due("to HOME", x.at(TOLD, 1, person), corner);
                    x.told(30);
                    due("no more alone", x.soonest(TOLD) == 1 ? 1 : 0, 0);
                }
            }
        });
        sentence(18, "hour by hour each of PEOPLE stays or goes a WAY;", () -> {
            // With all WAYS and all sizes each can be anywhere in an hour, wherever all the others go.
            for (int i = 0; i < 400; i++) {
                fresh();
                x.told(31);
                int from = 37 * i % 1024;
                int to = (611 * i + 5) % 1024;
                StringBuilder day = new StringBuilder(ways);
                for (int person = 0; person < 5; person++) {
                    day.append("one").append(from >> 2 * person & 3).append(' ').append(to >> 2 * person & 3).append(';');
                }
                land(day.toString());
                due("all at once", x.soonest(TOLD), from == to ? 0 : 1);
                due("nobody never", x.never(TOLD), 0);
                for (int person = 0; person < 5 && from != to; person++) {
                    due("at HOME, " + person, x.at(TOLD, 1, person), to >> 2 * person & 3);
                }
            }
        });
        sentence(19, "Where one of PEOPLE is behind an hour (0 on) of ROW.", () -> {
            for (int pair = 0; pair < 25; pair++) {
                int goer = pair / 5;
                int other = pair % 5;
                for (int home = 1; home < 4 && goer != other; home++) {
                    fresh();
                    x.told(31);
                    for (int start = 0; start < 4; start++) {
                        StringBuilder day = new StringBuilder(ways);
                        for (int person = 0; person < 5; person++) {
                            day.append("one").append(person == other ? start : 0);
                            day.append(' ').append(person == goer ? home : 0).append(';');
                        }
                        land(day.toString());
                        due("START of " + other, x.at(TOLD, 0, other), start);
                        due("HOME of " + goer, x.at(TOLD, 1, goer), home);
                        due("HOME of " + other, x.at(TOLD, 1, other), 0);
                    }
                }
            }
        });
        sentence(18, "WAYS FOR ALL by a RULE:", () -> {
            land("one 1 0;");
            due("one of PEOPLE", x.never(SQUARES), 1);
            land("one 0 0;one 1 0;");
            due("one ahead of it", x.never(SQUARES), 2);
            land("one 0 0;one 0 0;one 1 0;");
            due("two ahead of it", x.never(SQUARES), 4);
            for (int b = 1; b < 4; b++) {
                for (int a = 0; a < b; a++) {
                    land("one " + a + " " + b + ";");
                    due("no WAY", x.soonest(SQUARES), -1);
                    x.way(a, b, true);
                    due("a WAY", x.soonest(SQUARES), 1);
                    x.way(a, b, false);
                    due("no WAY again", x.soonest(SQUARES), -1);
                }
            }
        });
    }

    private static void due(int hour, int... corners) {
        for (int person = 0; person < corners.length; person++) {
            due("at(1, " + hour + ", " + person + ")", x.at(SQUARES, hour, person), corners[person]);
        }
    }

    private static void rows() {
        sentence(19, "ROW: of all soonest ones the first by where PEOPLE are behind hour 1 (0, then 1, ..),", () -> {
            land("way 0 1;way 0 2;way 1 3;way 2 3;one 0 3;");
            due(1, 1);
            land("way 0 1;way 0 2;way 1 3;way 2 3;one 0 3;one 0 3;");
            // One by one: 0 by 1, so 1 by 2, and not the other way round.
            due("soonest(1)", x.soonest(SQUARES), 2);
            due(0, 0, 0);
            due(1, 1, 2);
            due(2, 3, 3);
            land("way 0 1;way 0 2;way 1 3;way 2 3;way 0 3;one 0 3;one 0 3;one 3 0;");
            // Two hours: 0 may stay for one, and 1 goes at once; 2 goes by the least CORNER or at once.
            due("soonest(1)", x.soonest(SQUARES), 2);
            due(1, 0, 1, 0);
            due(2, 3, 3, 0);
        });
        sentence(19, "then behind hour 2, .. .", () -> {
            land("way 0 1;way 1 2;way 2 3;one 0 1;one 0 3;");
            // 1 needs three hours and goes at once; 0 can not go with it, and may stay for two hours.
            due("soonest(1)", x.soonest(SQUARES), 3);
            due(0, 0, 0);
            due(1, 0, 1);
            due(2, 0, 2);
            due(3, 1, 3);
            land("way 0 1;way 1 2;one 0 2;one 0 2;one 0 1;");
            due("soonest(1)", x.soonest(SQUARES), 3);
            due(1, 0, 1, 0);
            due(2, 1, 2, 0);
            due(3, 2, 2, 1);
        });
    }

    private static void at() {
        sentence(19, "Where one of PEOPLE is behind an hour (0 on) of ROW.", () -> {
            land("way 3 2;way 2 1;one 3 1;one 3 1;");
            int[] row = {3, 2, 1};
            for (int hour = 0; hour < 3; hour++) {
                for (int person = 0; person < 2; person++) {
                    due("at(0, " + hour + ", " + person + ")", x.at(PRIMES, hour, person), row[hour]);
                }
            }
            land(times(5, "one 2 2;"));
            due("all at HOME, hour 0", x.at(PRIMES, 0, 4), 2);
        });
        sentence(19, "-5: beyond its end.", () -> {
            land("way 3 2;way 2 1;one 3 1;one 3 1;");
            notSo("hour 2", 1, () -> x.at(PRIMES, 2, 0));
            notSo("hour 3", -5, () -> x.at(PRIMES, 3, 0));
            notSo("hour 4", -5, () -> x.at(PRIMES, 4, 1));
            notSo("the last hour of an int", -5, () -> x.at(PRIMES, HIGH, 0));
            land("one 2 2;");
            notSo("all at HOME, hour 0", 2, () -> x.at(PRIMES, 0, 0));
            notSo("all at HOME, hour 1", -5, () -> x.at(PRIMES, 1, 0));
        });
        sentence(19, "BAD: -10;", () -> {
            badApart("nobody", () -> x.at(PRIMES, 0, 0));
            land("way 0 1;one 0 1;one 0 1;");
            outside("at(rule, 0, 0)", 0, 3, -10, v -> x.at(v, 0, 0));
            outside("at(0, 0, person)", 0, 1, -10, v -> x.at(PRIMES, 0, v));
            badApart("at(0, -1, 0)", () -> x.at(PRIMES, -1, 0));
            badApart("at(0, LOW, 0)", () -> x.at(PRIMES, LOW, 0));
            badApart("beyond, and no person", () -> x.at(PRIMES, 9, 2));
            x.told(0);
            badApart("never, and no hour", () -> x.at(TOLD, -1, 0));
            badApart("never, and no person", () -> x.at(TOLD, 0, 2));
        });
        sentence(19, "NO: -20: never.", () -> {
            land("way 0 1;one 0 1;");
            refused("at(0, 0, 0)", -20, NO, () -> x.at(PRIMES, 0, 0));
            refused("at(0, 1, 0), beyond, too", -20, NO, () -> x.at(PRIMES, 1, 0));
            refused("at(0, HIGH, 0)", -20, NO, () -> x.at(PRIMES, HIGH, 0));
            due("but by squares", x.at(SQUARES, 1, 0), 1);
        });
    }

    private static void never() {
        sentence(20, "NEVER: PEOPLE (bits) who are at HOME in no state that can be reached.", () -> {
            due("nobody", x.never(PRIMES), 0);
            land("one 0 1;one 1 1;one 2 3;");
            due("no WAYS: who are there are not", x.never(SQUARES), 5);
            x.way(2, 3, true);
            due("one WAY, alone", x.never(SQUARES), 1);
            due("one WAY, in company alone", x.never(PRIMES), 5);
            land("way 0 1;one 0 1;one 0 0;");
            due("at HOME, if never at once", x.never(PRIMES), 0);
            land("way 0 1;way 2 3;one 0 1;one 0 3;one 1 0;");
            due("another part of the land", x.never(SQUARES), 2);
            land(times(5, "one 0 1;"));
            due("all five", x.never(PRIMES), 31);
            land("way 0 1;way 1 2;one 0 1;one 2 1;one 1 0;");
            // By primes nobody can go alone, and no two are at one CORNER.
            due("all three by primes", x.never(PRIMES), 7);
            due("none by squares", x.never(SQUARES), 0);
        });
        sentence(20, "NEVER, as bits.", () -> {
            land("one 0 0;one 0 1;one 0 0;one 0 1;one 0 0;");
            due("1 and 3", x.never(PRIMES), 10);
            x.way(0, 1, true);
            due("none", x.never(PRIMES), 0);
            x.told(bits(1, 2));
            due("none", x.never(TOLD), 0);
            x.told(bits(6));
            due("1 and 3", x.never(TOLD), 10);
        });
        sentence(20, "BAD.", () -> {
            outside("never", 0, 3, v -> x.never(v));
            x.one(0, 1);
            outside("never", 0, 3, v -> x.never(v));
        });
    }

    private static void hired() {
        sentence(21, "HIRED: the fewest k (0 .. 40) so that one with k hired ones is ALLOWED", () -> {
            due("two are a prime", x.hired(PRIMES, false), 1);
            due("one is a square", x.hired(SQUARES, false), 0);
            due("two are even", x.hired(EVEN, false), 1);
            due("two are TOLD", x.hired(TOLD, false), 1);
            for (int n = 1; n <= 20; n++) {
                x.told(bits(n));
                due("told " + n, x.hired(TOLD, false), n - 1);
            }
            x.told(bits(20, 7, 9));
            due("the fewest", x.hired(TOLD, false), 6);
        });
        sentence(21, "and, if they have to go back, k are, too (or none):", () -> {
            due("three, then two", x.hired(PRIMES, true), 2);
            due("none hired, none to go back", x.hired(SQUARES, true), 0);
            due("three, then two, as TOLD", x.hired(TOLD, true), 2);
            x.told(bits(1));
            due("none hired, none to go back", x.hired(TOLD, true), 0);
            x.told(bits(5, 9, 10));
            due("ten, then nine", x.hired(TOLD, true), 9);
            due("five, if they need not", x.hired(TOLD, false), 4);
            x.told(bits(19, 20));
            due("twenty, then nineteen", x.hired(TOLD, true), 19);
        });
        sentence(21, "(or none): none.", () -> {
            due("even, and even less one", x.hired(EVEN, true), -1);
            x.told(bits(20));
            due("nineteen can not go back", x.hired(TOLD, true), -1);
            x.told(0);
            due("none is told", x.hired(TOLD, false), -1);
        });
        sentence(21, "HIRED.", () -> {
            due("hired(0, true)", x.hired(PRIMES, true), 2);
            due("hired(0, false)", x.hired(PRIMES, false), 1);
            x.told(bits(2, 4, 6));
            due("hired(3, false)", x.hired(TOLD, false), 1);
        });
        sentence(21, "NONE.", () -> {
            notSo("hired(2, true)", -1, () -> x.hired(EVEN, true));
            x.told(0);
            notSo("hired(3, false)", -1, () -> x.hired(TOLD, false));
            notSo("hired(3, true)", -1, () -> x.hired(TOLD, true));
        });
        sentence(21, "BAD.", () -> {
            outside("hired(rule, true)", 0, 3, v -> x.hired(v, true));
            outside("hired(rule, false)", 0, 3, v -> x.hired(v, false));
        });
    }

    private static void last() {
        sentence(22, "(LAST 0 .. 99;", () -> {
            due("last(0, 99)", x.last(0, 99), 0);
            due("last(0, 0)", x.last(0, 0), 99);
            bad("last(0, 100)", () -> x.last(0, 100));
            bad("last(0, -1)", () -> x.last(0, -1));
            due("last(0, 1)", x.last(0, 1), 0);
        });
        sentence(22, "LAST of a CORNER: what it was.", () -> {
            for (int corner = 0; corner < 4; corner++) {
                due("last(" + corner + ", " + (10 + corner) + ")", x.last(corner, 10 + corner), 0);
            }
            for (int corner = 0; corner < 4; corner++) {
                due("last(" + corner + ", 99)", x.last(corner, 99), 10 + corner);
            }
            due("last(3, 99)", x.last(3, 99), 99);
        });
        sentence(22, "BAD.", () -> {
            outside("last(corner, 1)", 0, 3, v -> x.last(v, 1));
            outside("last(2, n)", 0, 99, v -> x.last(2, v));
            due("last(2, 0)", x.last(2, 0), 0);
        });
    }

    private static void still() {
        sentence(23, "STILL: CORNERS (bits) with somebody of PEOPLE at START,", () -> {
            due("nobody", x.still(PRIMES), 0);
            x.one(0, 3);
            due("at 0, not at 3", x.still(PRIMES), 1);
            x.one(3, 0);
            due("at both", x.still(PRIMES), 9);
            x.one(1, 0);
            x.one(2, 0);
            due("at all", x.still(PRIMES), 15);
            x.way(1, 3, true);
            due("at START, whatever goes", x.still(SQUARES), 5);
            due("a day", read("way 0 1;one 0 1;one 0 1;go 0 0 1 0 1;"), 1);
            x.way(0, 1, false);
            due("at START, not in the end of the day", x.still(PRIMES), 1);
        });
        sentence(23, "from where no company can leave: by a WAY,", () -> {
            land("one 0 0;one 1 1;one 2 2;one 3 3;");
            due("no WAYS", x.still(SQUARES), 15);
            x.way(2, 3, true);
            due("one WAY, from either end", x.still(SQUARES), 3);
            x.way(3, 0, true);
            due("another WAY", x.still(SQUARES), 2);
            x.way(1, 0, true);
            due("a WAY from each", x.still(SQUARES), 0);
        });
        sentence(23, "of so many as are there at most,", () -> {
            land("way 0 1;one 0 0;one 0 0;one 0 0;");
            x.told(bits(4));
            due("four are too many for three", x.still(TOLD), 1);
            x.told(bits(3));
            due("three are there", x.still(TOLD), 0);
            x.told(bits(1));
            due("one of them", x.still(TOLD), 0);
            x.one(1, 0);
            due("one alone is there", x.still(PRIMES), 2);
            x.one(1, 0);
            due("two are there", x.still(PRIMES), 0);
        });
        sentence(23, "ALLOWED, and not of as many as left it last", () -> {
            land("way 0 1;one 0 0;one 0 0;one 0 0;");
            due("nobody left", x.still(PRIMES), 0);
            x.last(0, 2);
            due("three can leave", x.still(PRIMES), 0);
            due("two can not again", x.still(EVEN), 1);
            x.last(0, 3);
            due("two can leave", x.still(EVEN), 0);
            x.told(bits(3));
            due("three can not again", x.still(TOLD), 1);
            x.last(0, 0);
            x.last(1, 3);
            due("as many as left another one", x.still(TOLD), 0);
            x.last(0, 99);
            due("as many as can never be", x.still(TOLD), 0);
            x.one(1, 0);
            x.last(1, 1);
            due("one can not again", x.still(SQUARES), 2);
            due("by primes it can not at all", x.still(PRIMES), 2);
        });
        sentence(23, "0: none; at first).", () -> {
            land("way 0 1;one 0 0;one 1 1;");
            due("none left at first", x.still(SQUARES), 0);
            due("last(0, 1)", x.last(0, 1), 0);
            due("still(1)", x.still(SQUARES), 1);
            due("last(0, 0)", x.last(0, 0), 1);
            due("none again", x.still(SQUARES), 0);
        });
    }

    private static void stillAnswers() {
        sentence(23, "STILL, as bits.", () -> {
            land("way 0 1;one 3 0;one 1 0;one 0 0;one 0 0;");
            due("1 and 3 by primes", x.still(PRIMES), 10);
            due("3 by squares", x.still(SQUARES), 8);
            x.told(0);
            due("all with somebody by none told", x.still(TOLD), 11);
        });
        sentence(23, "BAD.", () -> {
            outside("still", 0, 3, v -> x.still(v));
            x.one(0, 1);
            outside("still", 0, 3, v -> x.still(v));
        });
    }
}
