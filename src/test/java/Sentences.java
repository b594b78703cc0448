import java.math.BigInteger;
import java.util.function.IntSupplier;
import java.util.function.IntUnaryOperator;

/** What the tests of single sentences share: each begins with a new object and names its promise. */
abstract class Sentences {
    static final int PRIMES = 0, SQUARES = 1, EVEN = 2, TOLD = 3;
    static final int LOW = Integer.MIN_VALUE, HIGH = Integer.MAX_VALUE;
    static final int NO_REFUSAL = -1, BAD = 0, NO = 1, FULL = 2;

    static OnlyPrimes x;
    private static Document document;
    private static String label = "";

    static void begin(Document ofPromises) {
        document = ofPromises;
    }

    /** One test, for one sentence of one promise; what it answers is compared by due. */
    static void sentence(int promise, String sentence, Runnable test) {
        document.cover(promise, sentence);
        label = "promise " + promise + ", \"" + sentence + "\": ";
        fresh();
        int rows = Check.rows();
        test.run();
        Check.holds(label + "has a row", Check.rows() > rows);
    }

    static void fresh() {
        x = new OnlyPrimes();
    }

    static void due(String call, long got, long want) {
        Check.due(label + call, got, want);
    }

    /** A refused call answers as told, counts once in STATUS by its reason, and changes nothing else. */
    static void refused(String call, int want, int reason, IntSupplier calls) {
        long digest = x.digest();
        int[] had = {x.status(0), x.status(1), x.status(2)};
        due(call, calls.getAsInt(), want);
        due("digest() behind " + call, x.digest(), digest);
        for (int what = 0; what < had.length; what++) {
            due("status(" + what + ") behind " + call, x.status(what), had[what] + (what == reason ? 1 : 0));
        }
    }

    static void bad(String call, IntSupplier calls) {
        refused(call, -2, BAD, calls);
    }

    static void badApart(String call, IntSupplier calls) {
        refused(call, -10, BAD, calls);
    }

    static void no(String call, IntSupplier calls) {
        refused(call, -3, NO, calls);
    }

    static void full(String call, IntSupplier calls) {
        refused(call, -4, FULL, calls);
    }

    /** An answer below 0 that is no refusal: STATUS stays, too. */
    static void notSo(String call, int want, IntSupplier calls) {
        refused(call, want, NO_REFUSAL, calls);
    }

    /** Just below, just above, and as far as an int goes. */
    static void outside(String call, int least, int most, int want, IntUnaryOperator calls) {
        for (int v : new int[] {least - 1, most + 1, LOW, HIGH}) {
            refused(call + " of " + v, want, BAD, () -> calls.applyAsInt(v));
        }
    }

    static void outside(String call, int least, int most, IntUnaryOperator calls) {
        outside(call, least, most, -2, calls);
    }

    static int type(String text) {
        int bytes = x.count(3);
        for (int i = 0; i < text.length(); i += 8) {
            int end = Math.min(i + 8, text.length());
            long v = 0;
            for (int j = i; j < end; j++) {
                v = v << 8 | text.charAt(j);
            }
            bytes = x.type(v, end - i);
        }
        return bytes;
    }

    static int read(String text) {
        x.clear();
        type(text);
        return x.read();
    }

    /** A day that has no gos. */
    static void land(String text) {
        due("read() of " + text, read(text), 0);
    }

    /** A day that can not be read, its fault at a place that counts from 0. */
    static void fault(String text, int place) {
        x.clear();
        type(text);
        notSo("read() of " + text, -10 - place, () -> x.read());
    }

    static String times(int n, String text) {
        return text.repeat(n);
    }

    static void people(int n, int start, int home) {
        for (int i = 0; i < n; i++) {
            x.one(start, home);
        }
    }

    static void knots(int... people) {
        for (int n : people) {
            x.knot(n);
        }
    }

    static void companies(int... sizes) {
        for (int n : sizes) {
            x.company(n);
        }
    }

    static int bits(int... sizes) {
        int set = 0;
        for (int n : sizes) {
            set |= 1 << n - 1;
        }
        return set;
    }

    static void fraction(int above, int below) {
        due("part(0)", x.part(0), above);
        due("part(1)", x.part(1), below);
    }

    /** By numbers that have no end, then cut to a long: what is due where a long wraps around. */
    static long digestOf(long... values) {
        BigInteger h = BigInteger.valueOf(619);
        for (long v : values) {
            h = h.multiply(BigInteger.valueOf(31)).add(BigInteger.valueOf(v));
        }
        return h.longValue();
    }

    static long[] joined(long[]... rows) {
        int length = 0;
        for (long[] row : rows) {
            length += row.length;
        }
        long[] all = new long[length];
        int size = 0;
        for (long[] row : rows) {
            System.arraycopy(row, 0, all, size, row.length);
            size += row.length;
        }
        return all;
    }

    static long[] row(long... values) {
        return values;
    }
}
