/** Promises 8 to 10: a day that is read, judged, and where it ends. */
final class DaySentences extends Sentences {
    /** Eight bytes, so that what follows it begins at 8. */
    private static final String ONE = "one 0 1;";

    private DaySentences() {
    }

    static void all() {
        items();
        gos();
        tokens();
        faults();
        ends();
        read();
        judged();
        reasons();
        answers();
        lastCorners();
    }

    private static void items() {
        sentence(8, "of ITEMS, each ended by ; :", () -> {
            land("way 0 1;");
            land("way 0 1;way 1 2;");
            fault("way 0 1", 7);
            fault("way 0 1 way 1 2;", 8);
            fault(";", 0);
            fault("way 0 1;;", 8);
            fault("one 0 1", 7);
            fault("one 0 1 ; ;", 10);
            fault(ONE + "go 0 0 1 0", 18);
            fault(ONE + "go 0 0 1 0 " + ONE, 19);
        });
        sentence(8, "way a b;", () -> {
            land("way 0 3;way 2 1;");
            due("count(0)", x.count(0), 2);
            no("way(3, 0, true)", () -> x.way(3, 0, true));
            no("way(1, 2, true)", () -> x.way(1, 2, true));
            fault("way;", 3);
            fault("way 0;", 5);
            fault("way 0 1 2;", 8);
            fault("way way", 4);
        });
        sentence(8, "one START HOME;", () -> {
            land("one 2 3;one 3 0;");
            due("count(1)", x.count(1), 2);
            due("ends(0)", x.ends(0), 2);
            due("ends(1)", x.ends(1), 3);
            x.way(2, 3, true);
            due("never(1)", x.never(SQUARES), 2);
            land("one 1 1;");
            due("START may be HOME", x.judged(PRIMES), -1);
            fault("one;", 3);
            fault("one 0;", 5);
            fault("one 0 1 2;", 8);
            fault("one one", 4);
        });
        sentence(8, "go h a b p ..", () -> {
            due("read", read("one0 1;one0 0;go7 2 3 1 0;"), 1);
            long[] ahead = row(0, 2, 1, 26, 0, 0, 0, 6, 0, 0, 0, 0, 0, 0, 0, 1, 0, 0, 7, 2, 3, 3);
            long[] text = "one0 1;one0 0;go7 2 3 1 0;".chars().asLongStream().toArray();
            due("digest()", x.digest(), digestOf(joined(ahead, text, row(0, 0, 0, 0, 10, 0, 0, 1))));
            fault(ONE + "go;", 10);
            fault(ONE + "go 7;", 12);
            fault(ONE + "go 7 0;", 14);
            fault(ONE + "go 7 0 1;", 16);
            fault(ONE + "go go", 11);
        });
    }

    private static void gos() {
        sentence(8, "(hours h 0 .. 23,", () -> {
            due("hour 0", read(ONE + "go 0 0 1 0;"), 1);
            due("hour 23", read(ONE + "go 23 0 1 0;"), 1);
            due("both", read(ONE + "go 0 0 1 0;go 23 1 0 0;"), 2);
            fault(ONE + "go 24 0 1 0;", 11);
            fault(ONE + "go 99 0 1 0;", 11);
        });
        sentence(8, "none less than that of the go ahead;", () -> {
            due("alike", read(ONE + "go 5 0 1 0;go 5 1 0 0;"), 2);
            due("one more", read(ONE + "go 5 0 1 0;go 6 1 0 0;"), 2);
            due("9 and 10", read(ONE + "go 9 0 1 0;go 10 1 0 0;"), 2);
            fault(ONE + "go 5 0 1 0;go 4 1 0 0;", 22);
            fault(ONE + "go 1 0 1 0;go 0 1 0 0;", 22);
            fault(ONE + "go 23 0 1 0;go 22 1 0 0;", 23);
            fault(ONE + "go 1 0 1 0;go 7 1 0 0;go 6 0 1 0;", 33);
            due("but than that of another day", read(ONE + "go 0 0 1 0;"), 1);
        });
        sentence(8, "a company of PEOPLE ahead,", () -> {
            fault("go 0 0 1 0;", 9);
            fault(ONE + "go 0 0 1 1;" + ONE, 17);
            due("the second one told ahead", read(ONE + ONE + "go 0 0 1 1;" + ONE), 1);
            x.clear();
            due("no people", x.read(), 0);
            x.one(0, 1);
            fault("go 0 0 1 0;", 9);
        });
        sentence(8, "1 to 5 unlike ones).", () -> {
            fault(ONE + "go 5 0 1;", 16);
            fault(ONE + "go 5 0 1 0 0;", 19);
            fault(ONE + ONE + "go 5 0 1 1 0 1;", 29);
            String five = times(5, ONE);
            due("one", read(five + "go 0 0 1 4;"), 1);
            due("five", read(five + "go 0 0 1 4 2 0 1 3;"), 1);
            fault(five + "go 0 0 1 0 1 2 3 4 0;", 59);
            fault(five + "go 0 0 1 0 1 2 3 4 5;", 59);
            fault(five + "go 0 0 1 0 1 2 3 4 4;", 59);
        });
    }

    private static void tokens() {
        sentence(8, "TOKENS: words of letters a .. z,", () -> {
            fault("way{0 1;", 3);
            fault("way`0 1;", 3);
            fault("waya0 1;", 0);
            fault("wayz0 1;", 0);
            fault("WAY 0 1;", 0);
            fault("way 0 1;Way 1 2;", 8);
            fault("way 0 1;wAy 1 2;", 8);
        });
        sentence(8, "figures (1 or 2 are one number),", () -> {
            land("way 0 1;");
            land("way 00 03;");
            due("two figures", read("one 00 01;go 09 00 01 00;"), 1);
            due("two figures", read("one 0 1;go 19 0 1 0;"), 1);
            fault("way 01;", 6);
            fault("way 10 1;", 4);
            fault("way 0/1;", 5);
            fault("way 0:1;", 5);
        });
        sentence(8, "; ; blanks (32), any number, ahead of, between and behind TOKENS", () -> {
            due("many", read("   way   0   1   ;   one 0 1 ;  go   5  0  1   0  ;  "), 1);
            due("count(0)", x.count(0), 1);
            due("many ahead", read(times(192, " ") + "way 0 1;"), 0);
            due("many behind", read("way 0 1;" + times(192, " ")), 0);
            due("many between", read("way" + times(192, " ") + " 0 1;"), 0);
            due("count(0)", x.count(0), 1);
            fault("way\t0 1;", 3);
            fault("way\u001f0 1;", 3);
            fault("way!0 1;", 3);
            fault("way\u00a00 1;", 3);
            fault("way 0 1;\n", 8);
        });
        sentence(8, "(needed only between two words, two numbers).", () -> {
            due("none needed", read("way0 1;one0 1;go0 0 1 0;"), 1);
            due("count(0)", x.count(0), 1);
            due("none behind a number", read("one0 1;go0 0 1 0;way0 1;"), 1);
            fault("wayone 0 1;", 0);
            fault("one0 1;goway", 7);
            fault("way01;", 5);
            fault("one0 1;go00 1 0;", 15);
        });
    }

    private static void faults() {
        sentence(8, "FAULT: the place of the first byte of the first TOKEN that can not stand there", () -> {
            fault("0 1;", 0);
            fault("  0 1;", 2);
            fault("way 9 9;", 4);
            fault("way 0 9;way 9 0;", 6);
            fault("way 12 1;", 4);
            fault("way 0 1 one 0 1;", 8);
            fault("way 0  way;", 7);
            fault("one way;", 4);
            fault("way ;", 4);
        });
        sentence(8, "(a word that is none,", () -> {
            for (String word : new String[] {"w", "wa", "ways", "on", "ones", "g", "goo", "og", "eno", "yaw", "wey", "day", "a", "z"}) {
                fault(word + " 0 1;", 0);
                fault("way 0 1; " + word, 9);
            }
            fault("way go 1;", 4);
            fault("way x 1;", 4);
        });
        sentence(8, "a CORNER,", () -> {
            fault("way 4 0;", 4);
            fault("way 0 4;", 6);
            fault("way 99 0;", 4);
            fault("one 4 0;", 4);
            fault("one 0 4;", 6);
            fault(ONE + "go 0 4 1 0;", 13);
            fault(ONE + "go 0 0 4 0;", 15);
            due("the greatest", read("way 3 0;way 1 3;one 3 3;go 0 3 3 0;"), 1);
        });
        sentence(8, "an hour,", () -> {
            fault(ONE + "go 24 0 1 0;", 11);
            fault(ONE + "go 30 0 1 0;", 11);
            fault(ONE + "go 5 0 1 0;go 24 0 1 0;", 22);
            fault(ONE + "go ; 0 1 0;", 11);
            fault(ONE + "go a 0 1 0;", 11);
        });
        sentence(8, "one of PEOPLE that is not as told,", () -> {
            fault(ONE + "go 0 0 1 1;", 17);
            fault(ONE + "go 0 0 1 0 1;", 19);
            fault(ONE + "go 0 0 1 99;", 17);
            fault(ONE + "go 0 0 1 one", 17);
            fault(times(5, ONE) + "go 0 0 1 5;", 49);
            due("the last one", read(times(5, ONE) + "go 0 0 1 4;"), 1);
        });
        sentence(8, "a WAY of a CORNER to itself", () -> {
            for (int corner = 0; corner < 4; corner++) {
                fault("way " + corner + " " + corner + ";", 6);
                fault("way 0" + corner + " " + corner + ";", 7);
            }
            due("a go is no WAY", read(ONE + "go 0 1 1 0;"), 1);
        });
        sentence(8, "or that is there (at the second CORNER),", () -> {
            fault("way 0 1;way 0 1;", 14);
            fault("way 0 1;way 1 0;", 14);
            fault("way 2 3;way 0 1; way 3  2;", 24);
            x.way(0, 1, true);
            land("way 0 1;");
            due("the land's own is gone", x.count(0), 1);
        });
        sentence(8, "a 6th of PEOPLE", () -> {
            land(times(5, ONE));
            due("count(1)", x.count(1), 5);
            fault(times(6, ONE), 40);
            fault(times(5, ONE) + " one", 41);
            fault(times(5, ONE) + "one 9", 40);
            land(ONE);
            due("the land's own are gone", x.count(1), 1);
        });
        sentence(8, "or a 25th go at its word,", () -> {
            // A go takes ten bytes at least, so that a text ends ahead of a 25th one.
            String hour = "go0 0 0 0;";
            due("as many as go into a text", read("one0 0;" + times(19, hour)), 19);
            due("count(2)", x.count(2), 19);
            due("two figures", read("one0 0;" + times(9, hour) + times(9, "go23 0 0 0;")), 18);
        });
        sentence(8, "a run of three figures or more (at its first one),", () -> {
            fault("way 001 2;", 4);
            fault("way 000 2;", 4);
            fault("way 0 100;", 6);
            fault("way 0 1 222", 8);
            fault(ONE + "go 005 0 1 0;", 11);
            fault(ONE + "go 5 0 1 000;", 17);
            fault("one 4294967296 0;", 4);
            fault("one " + times(196, "0"), 4);
            fault("0000", 0);
        });
        bytes();
    }

    private static void bytes() {
        sentence(8, "a byte that begins none, too);", () -> {
            for (int b = 0; b < 256; b++) {
                fresh();
                boolean isFigure = b >= '0' && b <= '9';
                String sign = String.valueOf((char) b);
                if (b == 32) {
                    due("read() of a blank", read("way 0" + sign + "1;"), 0);
                } else {
                    fault(sign, 0);
                    fault("way 0 1;" + sign, 8);
                    fault("way 0" + sign + "1;", isFigure ? 4 : 5);
                }
            }
        });
    }

    private static void ends() {
        sentence(8, "the TEXT's length, if it ends too early", () -> {
            fault("way", 3);
            fault("way ", 4);
            fault("way 0", 5);
            fault("way 0 1", 7);
            fault("way 0 1  ", 9);
            fault("one 0", 5);
            fault(ONE + "go", 10);
            fault(ONE + "go 1 0 1", 16);
            fault(ONE + "go 1 0 1 0", 18);
            fault("way 0 1" + times(193, " "), 200);
            fault(times(197, " ") + "way", 200);
        });
        sentence(8, "(an empty one, one of blanks alone: none).", () -> {
            due("an empty one", x.read(), 0);
            x.one(1, 1);
            x.way(0, 1, true);
            due("a blank", read(" "), 0);
            due("count(0)", x.count(0), 0);
            due("count(1)", x.count(1), 0);
            x.way(0, 1, true);
            due("200 blanks", read(times(200, " ")), 0);
            due("count(0)", x.count(0), 0);
            x.one(1, 1);
            due("an empty one again", read(""), 0);
            due("count(1)", x.count(1), 0);
        });
    }

    private static void read() {
        sentence(8, "A DAY that is read takes the place of THE LAND and of the day ahead", () -> {
            due("one day", read("way 0 1;way 1 2;one 0 1;one 0 2;go 1 0 1 0;go 2 1 0 0;"), 2);
            x.way(2, 3, true);
            x.one(3, 3);
            x.last(2, 7);
            x.told(9);
            due("another day", read("way 0 3;one 2 3;go 0 2 3 0;"), 1);
            due("count(0)", x.count(0), 1);
            due("count(1)", x.count(1), 1);
            due("count(2)", x.count(2), 1);
            no("the ways ahead", () -> x.way(0, 1, false));
            no("the way of a call", () -> x.way(2, 3, false));
            due("ends(0)", x.ends(0), 3);
            due("LAST is no part of THE LAND", x.last(2, 0), 7);
            due("nor is RULE 3", x.told(6), 9);
        });
        sentence(8, "(none at first).", () -> {
            due("count(2)", x.count(2), 0);
            due("judged(0)", x.judged(PRIMES), -1);
            x.one(2, 2);
            due("ends(0)", x.ends(0), 2);
        });
        sentence(8, "THE DAY is read (it stays): how many gos.", () -> {
            due("none", read("way 0 1;"), 0);
            due("one", read(ONE + "go 0 0 1 0;"), 1);
            due("count(3)", x.count(3), 19);
            due("read() again", x.read(), 1);
            due("type a go more", type("go 1 1 0 0;"), 30);
            due("two", x.read(), 2);
            due("count(2)", x.count(2), 2);
            due("count(3)", x.count(3), 30);
        });
        sentence(8, "-10 less the FAULT: all stays.", () -> {
            due("a day", read("way 0 1;one 0 1;one 0 1;go 5 0 1 0 1;"), 1);
            fault(";", 0);
            fault("one 2 2;way 2 3;way 1 3;go 9 2 2 0;go", 37);
            fault("one 2 2;way 2 3;" + times(183, " ") + "x", 199);
            fault(times(200, " ").substring(7) + "way 0 1", 200);
            due("ways stay", x.count(0), 1);
            due("people stay", x.count(1), 2);
            due("gos stay", x.count(2), 1);
            due("judged(0)", x.judged(PRIMES), -1);
            due("judged(1)", x.judged(SQUARES), 3);
            due("ends(1)", x.ends(1), 1);
        });
    }

    private static void judged() {
        sentence(9, "JUDGED by a RULE:", () -> {
            due("a company of two", read("way 0 1;one 0 1;one 0 1;go 0 0 1 0 1;"), 1);
            due("judged(0)", x.judged(PRIMES), -1);
            due("judged(1)", x.judged(SQUARES), 3);
            due("judged(2)", x.judged(EVEN), -1);
            due("judged(3)", x.judged(TOLD), -1);
            x.told(bits(1, 3, 4));
            due("judged(3), two not told", x.judged(TOLD), 3);
            due("a company of five", read("way 0 1;" + times(5, ONE) + "go 0 0 1 4 3 2 1 0;"), 1);
            due("judged(0)", x.judged(PRIMES), -1);
            due("judged(2)", x.judged(EVEN), 3);
        });
        sentence(9, "gos one by one,", () -> {
            due("there and back", read("way 0 1;one 0 0;go 0 0 1 0;go 1 1 0 0;"), 2);
            due("judged(1)", x.judged(SQUARES), -1);
            due("back ahead of there", read("way 0 1;one 0 0;go 0 1 0 0;go 1 0 1 0;"), 2);
            due("judged(1)", x.judged(SQUARES), 1);
        });
        sentence(9, "all of PEOPLE at START at first;", () -> {
            due("from START", read("way 2 3;one 2 3;one 3 2;go 0 2 3 0;go 0 3 2 1;"), 2);
            due("judged(1)", x.judged(SQUARES), -1);
            due("from HOME", read("way 2 3;one 2 3;go 0 3 2 0;"), 1);
            due("judged(1)", x.judged(SQUARES), 1);
        });
        sentence(9, "each company leaves a in hour h, is at b in hour h and 1.", () -> {
            due("on in the next hour", read("way 0 1;way 1 2;one 0 2;go 3 0 1 0;go 4 1 2 0;"), 2);
            due("judged(1)", x.judged(SQUARES), -1);
            due("on in the same hour", read("way 0 1;way 1 2;one 0 2;go 3 0 1 0;go 3 1 2 0;"), 2);
            due("judged(1)", x.judged(SQUARES), 11);
            due("in hour 0", read("way 0 1;one 0 1;go 0 0 1 0;"), 1);
            due("judged(1)", x.judged(SQUARES), -1);
            due("in hour 23", read("way 0 1;one 0 1;go 23 0 1 0;"), 1);
            due("judged(1)", x.judged(SQUARES), -1);
            due("many hours behind", read("way 0 1;one 0 0;go 0 0 1 0;go 23 1 0 0;"), 2);
            due("judged(1)", x.judged(SQUARES), -1);
        });
        sentence(9, "The first that is none: its number, and why:", () -> {
            due("two that are none", read("way 0 1;one 0 1;go 0 0 1 0;go 1 1 2 0;go 5 0 1 0;"), 3);
            due("judged(1)", x.judged(SQUARES), 12);
            due("judged(0)", x.judged(PRIMES), 3);
            StringBuilder day = new StringBuilder("way0 1;one0 0;");
            for (int hour = 0; hour < 16; hour++) {
                day.append("go").append(hour).append(hour % 2 == 0 ? " 0 1 0;" : " 1 0 0;");
            }
            due("seventeen gos", read(day + "go16 0 2 0;"), 17);
            due("judged(1), the last", x.judged(SQUARES), 162);
        });
    }

    private static void reasons() {
        String land = "way 0 1;way 1 2;one 0 2;one 0 2;one 1 2;";
        sentence(9, "1 one of them is not at a then", () -> {
            due("the third is at 1", read(land + "go 0 0 1 0 2;"), 1);
            due("judged(0)", x.judged(PRIMES), 1);
            due("all are at 1", read(land + "go 0 1 2 0;"), 1);
            due("judged(1)", x.judged(SQUARES), 1);
            due("left already", read(land + "go 0 0 1 0 1;go 9 0 1 1;"), 2);
            due("judged(0)", x.judged(PRIMES), 11);
        });
        sentence(9, "(still on the way, too),", () -> {
            due("on the way to 1", read(land + "go 7 0 1 0 1;go 7 1 2 2 0 1;"), 2);
            due("judged(0)", x.judged(PRIMES), 11);
            due("there an hour later", read(land + "go 7 0 1 0 1;go 8 1 2 2 0 1;"), 2);
            due("judged(0)", x.judged(PRIMES), -1);
            due("from where they left", read(land + "go 7 0 1 0 1;go 7 0 1 0 1;"), 2);
            due("judged(0)", x.judged(PRIMES), 11);
        });
        sentence(9, "2 there is no WAY,", () -> {
            due("no way", read(land + "go 0 0 2 0 1;"), 1);
            due("judged(0)", x.judged(PRIMES), 2);
            x.way(2, 0, true);
            notSo("judged(0), a way of a call", -5, () -> x.judged(PRIMES));
            due("to itself", read(land + "go 0 0 0 0 1;"), 1);
            due("judged(0)", x.judged(PRIMES), 2);
            due("a way", read(land + "go 0 0 1 0 1;go 1 1 2 2 1 0;"), 2);
            due("judged(0)", x.judged(PRIMES), -1);
            x.way(1, 2, false);
            due("judged(0), a way no more", x.judged(PRIMES), 12);
        });
        sentence(9, "3 not ALLOWED.", () -> {
            due("one alone", read(land + "go 0 0 1 0;"), 1);
            due("judged(0)", x.judged(PRIMES), 3);
            due("judged(2)", x.judged(EVEN), 3);
            due("judged(3)", x.judged(TOLD), 3);
            notSo("judged(1)", -5, () -> x.judged(SQUARES));
            x.told(1);
            notSo("judged(3), one told", -5, () -> x.judged(TOLD));
        });
        sentence(9, "(They are looked at in this order.)", () -> {
            due("1, 2, 3", read(land + "go 0 1 3 0;"), 1);
            due("judged(0)", x.judged(PRIMES), 1);
            due("1, 2", read(land + "go 0 1 3 0 1;"), 1);
            due("judged(0)", x.judged(PRIMES), 1);
            due("1, 3", read(land + "go 0 1 2 0;"), 1);
            due("judged(0)", x.judged(PRIMES), 1);
            due("2, 3", read(land + "go 0 0 3 0;"), 1);
            due("judged(0)", x.judged(PRIMES), 2);
            due("the first go's 3, the second's 1", read(land + "go 0 0 1 0;go 0 3 2 2;"), 2);
            due("judged(0)", x.judged(PRIMES), 3);
        });
        sentence(9, "None: all are at HOME in the end, or not.", () -> {
            due("all", read("way 0 1;one 0 1;one 0 1;one 3 3;go 0 0 1 0 1;"), 1);
            due("judged(0)", x.judged(PRIMES), -1);
            x.one(3, 2);
            due("judged(0), all but one who stays", x.judged(PRIMES), -5);
            due("all but the first", read("way 0 1;one 0 0;one 0 1;go 0 0 1 0 1;"), 1);
            due("judged(0)", x.judged(PRIMES), -5);
            due("all but the last", read("way 0 1;one 0 1;one 0 0;go 0 0 1 0 1;"), 1);
            due("judged(0)", x.judged(PRIMES), -5);
            due("HOME, and on", read("way 0 1;one 0 1;go 0 0 1 0;go 1 1 0 0;"), 2);
            due("judged(1)", x.judged(SQUARES), -5);
        });
    }

    private static void answers() {
        sentence(9, "JUDGED: 10 times the number of the first go that is none, and why.", () -> {
            due("three gos", read("way 0 1;one 0 1;go 0 0 1 0;go 1 1 0 0;go 1 1 0 0;"), 3);
            notSo("judged(1), not at a", 21, () -> x.judged(SQUARES));
            due("three gos", read("way 0 1;one 0 1;go 0 0 1 0;go 1 1 0 0;go 2 0 3 0;"), 3);
            notSo("judged(1), no way", 22, () -> x.judged(SQUARES));
            due("three gos", read("way 0 1;one 0 1;one 0 1;go 0 0 1 0;go 1 1 0 0;go 2 0 1 0 1;"), 3);
            notSo("judged(1), not allowed", 23, () -> x.judged(SQUARES));
        });
        sentence(9, "NONE: all are, and are at HOME in the end;", () -> {
            notSo("judged(0), nobody", -1, () -> x.judged(PRIMES));
            x.one(2, 2);
            notSo("judged(0), one at home", -1, () -> x.judged(PRIMES));
            due("read", read("way 0 1;one 0 1;go 0 0 1 0;"), 1);
            notSo("judged(1)", -1, () -> x.judged(SQUARES));
        });
        sentence(9, "-5: all are, but somebody is not.", () -> {
            x.one(2, 3);
            notSo("judged(0), no day", -5, () -> x.judged(PRIMES));
            due("read", read("way 0 1;one 0 2;go 0 0 1 0;"), 1);
            notSo("judged(1)", -5, () -> x.judged(SQUARES));
        });
        sentence(9, "BAD: -10.", () -> {
            outside("judged", 0, 3, -10, v -> x.judged(v));
            due("read", read("way 0 1;one 0 2;go 0 0 1 0;"), 1);
            outside("judged", 0, 3, -10, v -> x.judged(v));
        });
    }

    private static void lastCorners() {
        sentence(10, "Where one of PEOPLE is in the end of the day, if nobody looks at RULES, WAYS, or where one begins.", () -> {
            x.one(3, 0);
            due("no day", x.ends(0), 3);
            due("read", read("one 0 1;one 1 2;one 2 3;go 3 0 3 0 1;go 3 2 0 1;go 9 1 1 0;"), 3);
            due("the last go of three", x.ends(0), 1);
            due("the second go", x.ends(1), 0);
            due("no go", x.ends(2), 2);
            due("one more", x.one(1, 0), 3);
            due("ends(3)", x.ends(3), 1);
            due("a whole day", read("way0 1;" + times(5, "one0 1;") + times(7, "go0 0 2 0;") + "go23 1 3 4 3 2 1 0;"), 8);
            for (int person = 0; person < 5; person++) {
                due("ends(" + person + ")", x.ends(person), 3);
            }
        });
        sentence(10, "BAD.", () -> {
            outside("ends", 0, -1, v -> x.ends(v));
            people(3, 0, 1);
            outside("ends", 0, 2, v -> x.ends(v));
            people(2, 0, 1);
            outside("ends", 0, 4, v -> x.ends(v));
        });
    }
}
