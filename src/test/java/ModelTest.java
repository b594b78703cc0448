/** Long runs of calls on the program and on the model, which must answer alike, digest by digest. */
public final class ModelTest {
    private static final int[] EDGES = {Integer.MIN_VALUE, -1000, -6, -2, -1, 0, 1, 2, 3, 4, 5, 6,
        7, 8, 9, 10, 12, 13, 19, 20, 21, 24, 25, 30, 31, 40, 60, 61, 72, 73, 99, 100, 200, 255, 256,
        65536, 1048575, 1048576, Integer.MAX_VALUE};

    private static final int MOST_LOGGED = 4000;

    /** An object is used for 512 calls at most; a step takes fewer than what is left. */
    private static final int MOST_CALLS = 400;

    private final OnlyPrimes program = new OnlyPrimes();
    private final Model model = new Model();
    private final StringBuilder log = new StringBuilder();
    private int calls;
    private long seed;

    private ModelTest(long seed) {
        this.seed = seed;
    }

    public static void main(String[] args) {
        int runs = args.length > 0 ? Integer.parseInt(args[0]) : 2500;
        for (int run = 0; run < runs && !Check.isWrong(); run++) {
            ModelTest test = new ModelTest(run);
            for (int step = 0; step < 100 && test.calls < MOST_CALLS && !Check.isWrong(); step++) {
                test.step(run);
            }
            if (Check.isWrong()) {
                int begin = Math.max(0, test.log.length() - MOST_LOGGED);
                System.out.println("run " + run + ", its last calls:" + test.log.substring(begin));
            }
        }
        Check.end();
    }

    /** A row of numbers that is the same in each run of the test. */
    private int any(int below) {
        seed = seed * 6364136223846793005L + 1442695040888963407L;
        return (int) Math.floorMod((seed ^ seed >>> 29) >> 17, (long) below);
    }

    /** Mostly as told, sometimes not. */
    private int number(int least, int most) {
        int dice = any(24);
        if (dice == 0) {
            return EDGES[any(EDGES.length)];
        }
        if (dice == 1) {
            return any(2) == 0 ? least - 1 : most + 1;
        }
        return least + any(most - least + 1);
    }

    private void same(String call, long got, long want) {
        calls++;
        log.append("\n  ").append(call).append(" = ").append(got);
        Check.due(call, got, want);
    }

    private void step(int run) {
        // One kind of run a part of the face, so that its states go deep; each fourth has all.
        int kind = run % 4 == 3 ? any(3) : run % 4;
        if (any(5) == 0) {
            change();
        } else if (kind == 0) {
            day();
        } else if (kind == 1) {
            crowd();
        } else {
            tables();
        }
        same("digest()", program.digest(), model.digest());
        for (int what = 0; what < 3; what++) {
            same("status(" + what + ")", program.status(what), model.status(what));
        }
    }

    private void change() {
        int a = number(0, 1);
        switch (any(8)) {
            case 0: same("image(" + a + ")", program.image(a), model.image(a)); break;
            case 1: same("from(" + a + ")", program.from(a), model.from(a)); break;
            case 2: a = number(0, 1 << 20); same("told(" + a + ")", program.told(a), model.told(a)); break;
            case 3: a = any(64); same("told(" + a + ")", program.told(a), model.told(a)); break;
            case 4: same("part(" + a + ")", program.part(a), model.part(a)); break;
            case 5: a = number(0, 6); same("count(" + a + ")", program.count(a), model.count(a)); break;
            case 6: a = number(0, 2); same("status(" + a + ")", program.status(a), model.status(a)); break;
            default: allowed(); break;
        }
    }

    private void allowed() {
        int rule = number(0, 3);
        int n = number(1, 99);
        same("allowed(" + rule + ", " + n + ")", program.allowed(rule, n), model.allowed(rule, n));
    }

    private void day() {
        int rule = number(0, 3);
        int a = number(0, 3);
        int b = number(0, 3);
        switch (any(14)) {
            case 0: case 1: {
                boolean is = any(3) > 0;
                same("way(" + a + ", " + b + ", " + is + ")", program.way(a, b, is), model.way(a, b, is));
                break;
            }
            case 2: same("one(" + a + ", " + b + ")", program.one(a, b), model.one(a, b)); break;
            case 3: case 4: case 5: typeDay(); break;
            case 6: same("judged(" + rule + ")", program.judged(rule), model.judged(rule)); break;
            case 7: same("ends(" + a + ")", program.ends(a), model.ends(a)); break;
            case 8: walk(rule); break;
            case 9: b = number(0, 99); same("last(" + a + ", " + b + ")", program.last(a, b), model.last(a, b)); break;
            case 10: b = number(0, 5); same("last(" + a + ", " + b + ")", program.last(a, b), model.last(a, b)); break;
            case 11: case 12: same("still(" + rule + ")", program.still(rule), model.still(rule)); break;
            default: {
                boolean back = any(2) == 0;
                same("hired(" + rule + ", " + back + ")", program.hired(rule, back), model.hired(rule, back));
                break;
            }
        }
    }

    private void walk(int rule) {
        // The model looks at all pairs of states: five people are too many to be asked often.
        if (model.count(1) > 3 && any(12) > 0 || model.count(1) > 4 && any(8) > 0) {
            return;
        }
        same("soonest(" + rule + ")", program.soonest(rule), model.soonest(rule));
        same("never(" + rule + ")", program.never(rule), model.never(rule));
        for (int i = 0; i < 4; i++) {
            int hour = number(0, 4);
            int person = number(0, 3);
            same("at(" + rule + ", " + hour + ", " + person + ")",
                program.at(rule, hour, person), model.at(rule, hour, person));
        }
    }

    private void typeDay() {
        if (any(4) > 0) {
            same("clear()", program.clear(), model.clear());
        }
        String text = new DayWriter(this).write();
        for (int i = 0; i < text.length(); ) {
            int n = 1 + any(8);
            long v = any(1 << 30);
            int taken = Math.min(n, text.length() - i);
            for (int j = 0; j < taken; j++) {
                v = v << 8 | text.charAt(i + j);
            }
            same("type(" + v + ", " + taken + ")", program.type(v, taken), model.type(v, taken));
            i += taken;
        }
        if (any(20) == 0) {
            int n = number(0, 9);
            same("type(-1, " + n + ")", program.type(-1, n), model.type(-1, n));
        }
        same("read() of " + text, program.read(), model.read());
        for (int rule = 0; rule < 4; rule++) {
            same("judged(" + rule + ")", program.judged(rule), model.judged(rule));
        }
        for (int person = 0; person < 5; person++) {
            same("ends(" + person + ")", program.ends(person), model.ends(person));
        }
    }

    private void crowd() {
        int rule = number(0, 3);
        int what = number(0, 2);
        int n = number(0, 30);
        switch (any(8)) {
            case 0: case 1: {
                int people = any(3) > 0 ? 1 + any(3) : number(1, 9);
                same("knot(" + people + ")", program.knot(people), model.knot(people));
                break;
            }
            case 2: {
                int a = number(0, 4);
                int b = any(2) == 0 ? number(1, 72) : 1 + any(12);
                if (any(3) == 0) {
                    same("counted(" + a + ", " + b + ")", program.counted(a, b), model.counted(a, b));
                }
                break;
            }
            case 3: {
                if (any(4) == 0) {
                    same("untie()", program.untie(), model.untie());
                }
                break;
            }
            case 4:
                same("parted(" + rule + ", " + n + ", " + what + ")", program.parted(rule, n, what), model.parted(rule, n, what));
                break;
            case 5: row(rule, n); break;
            default: partings(rule, what); break;
        }
    }

    private void row(int rule, int n) {
        int rows = Math.max(model.parted(rule, n, 0), program.parted(rule, n, 0));
        int i = any(8) == 0 ? number(0, 6000) : number(0, Math.max(rows, 1));
        for (int k = -1; k < 10; k++) {
            same("row(" + rule + ", " + n + ", " + i + ", " + k + ")", program.row(rule, n, i, k), model.row(rule, n, i, k));
        }
    }

    private void partings(int rule, int what) {
        same("partings(" + rule + ", " + what + ")", program.partings(rule, what), model.partings(rule, what));
        int a = number(0, 7);
        int b = number(0, 7);
        same("together(" + rule + ", " + a + ", " + b + ")", program.together(rule, a, b), model.together(rule, a, b));
    }

    private void tables() {
        int rule = number(0, 3);
        int what = number(0, 1);
        switch (any(8)) {
            case 0: case 1: {
                int n = any(2) == 0 ? number(1, 20) : 1 + any(5);
                same("company(" + n + ")", program.company(n), model.company(n));
                break;
            }
            case 2: {
                if (any(4) == 0) {
                    same("disperse()", program.disperse(), model.disperse());
                }
                break;
            }
            case 3: {
                int v = what == 0 ? number(1, 60) : number(0, 3);
                same("put(" + what + ", " + v + ")", program.put(what, v), model.put(what, v));
                break;
            }
            case 4: {
                int t = number(1, 3);
                int s = number(1, any(4) == 0 ? 12 : 6);
                int n = number(0, any(4) == 0 ? 24 : 12);
                same("tables(" + rule + ", " + t + ", " + s + ", " + n + ", " + what + ")",
                    program.tables(rule, t, s, n, what), model.tables(rule, t, s, n, what));
                break;
            }
            default:
                same("ferry(" + rule + ", " + what + ")", program.ferry(rule, what), model.ferry(rule, what));
                break;
        }
    }

    /** Writes texts of days: most can be read, some have one thing in them that is wrong. */
    private static final class DayWriter {
        private static final String[] ODD = {"", " ", ";", ";;", "wa", "ways", "go", "one", "way",
            "4", "9", "24", "007", "000", "12345678901", "-", "\n", "Z", "\u00e9", "\u0080", "a", "x1", "1x", "0", "1"};
        private static final int MANY = 19;
        private final ModelTest dice;
        private final StringBuilder text = new StringBuilder();

        DayWriter(ModelTest dice) {
            this.dice = dice;
        }

        private int any(int below) {
            return dice.any(below);
        }

        private void put(String token) {
            char last = text.length() == 0 ? ';' : text.charAt(text.length() - 1);
            boolean bothWords = isLetter(last) && isLetter(token.charAt(0));
            boolean bothNumbers = isFigure(last) && isFigure(token.charAt(0));
            int blanks = any(12) == 0 ? any(3) : bothWords || bothNumbers ? 1 : any(8) == 0 ? 1 : 0;
            if (any(60) == 0) {
                text.append(ODD[any(ODD.length)]);
            }
            for (int i = 0; i < blanks || i == 0 && (bothWords || bothNumbers) && any(80) > 0; i++) {
                text.append(' ');
            }
            text.append(token);
        }

        private static boolean isLetter(char c) {
            return c >= 'a' && c <= 'z';
        }

        private static boolean isFigure(char c) {
            return c >= '0' && c <= '9';
        }

        private void number(int v) {
            put(v < 10 && any(12) == 0 ? "0" + v : "" + v);
        }

        String write() {
            int ways = any(5);
            int people = any(6);
            for (int i = 0; i < ways; i++) {
                put("way");
                int a = any(4);
                number(a);
                number(any(10) == 0 ? any(5) : (a + 1 + any(3)) % 4);
                put(";");
            }
            for (int i = 0; i < people; i++) {
                put("one");
                number(any(30) == 0 ? 4 : any(4));
                number(any(4));
                put(";");
            }
            gos(people);
            if (any(6) == 0) {
                text.setLength(Math.max(0, text.length() - any(6)));
            }
            return text.toString();
        }

        private void gos(int people) {
            int gos = any(10) == 0 ? MANY : any(7);
            int hour = any(4);
            for (int i = 0; i < gos && people > 0; i++) {
                put("go");
                number(any(40) == 0 ? 24 : hour);
                number(any(4));
                number(any(4));
                int mask = 1 + any((1 << people) - 1);
                for (int p = 0; p < people; p++) {
                    if ((mask >> p & 1) == 1 && (gos < MANY || mask >> p == 1)) {
                        number(any(50) == 0 ? any(7) : p);
                    }
                }
                put(";");
                hour = any(40) == 0 ? any(24) : Math.min(23, hour + any(gos < MANY ? 3 : 2));
            }
        }
    }
}
