/** Counts what is not as due; prints each such row. */
final class Check {
    private static final int MOST_PRINTED = 40;
    private static int rows;
    private static int wrong;

    private Check() {
    }

    static void due(String what, long got, long want) {
        rows++;
        if (got != want) {
            wrong++;
            if (wrong <= MOST_PRINTED) {
                System.out.println(what + " answered " + got + ", due is " + want);
            }
        }
    }

    static void holds(String what, boolean is) {
        due(what, is ? 1 : 0, 1);
    }

    static boolean isWrong() {
        return wrong > 0;
    }

    static int rows() {
        return rows;
    }

    static void end() {
        System.out.println(rows + " rows, " + wrong + " not as due");
        if (wrong > 0 || rows == 0) {
            System.exit(1);
        }
    }
}
