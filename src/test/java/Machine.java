/**
 * Boards that go from state to state by any rule: row k holds a lamp, an empty square, shutter k and eye k, which is lit
 * while that is open; so a TEST that sees eye k looks at bit k of the state.
 */
final class Machine {
    static final int LAMP_COLUMN = 0;
    static final int EMPTY_COLUMN = 1;
    static final int SHUTTER_COLUMN = 2;
    static final int EYE_COLUMN = 3;
    private static final String NAMES = "abcdef";

    private Machine() {
    }

    /** A row for each TEST; shutter k goes by the k-th. */
    static String text(String... tests) {
        StringBuilder text = new StringBuilder("size 4 " + Math.max(2, tests.length) + ";");
        for (int k = 0; k < tests.length; k++) {
            text.append("lamp red right at 0 ").append(k).append(";shutter when ").append(tests[k]).append(" at 2 ").append(k)
                    .append(";eye ").append(NAMES.charAt(k)).append(" at 3 ").append(k).append(';');
        }
        return text.toString();
    }

    /** That bit k is open. */
    static String bit(int k) {
        return "sees " + NAMES.charAt(k) + " red";
    }

    /** That the lowest n bits are open. */
    static String allOf(int n) {
        StringBuilder test = new StringBuilder(bit(0));
        for (int k = 1; k < n; k++) {
            test.append(" and ").append(bit(k));
        }
        return test.toString();
    }

    /** So many shutters that count up, from the last state round to 0. */
    static String counts(int n) {
        String[] tests = new String[n];
        for (int k = 0; k < n; k++) {
            tests[k] = counting(k);
        }
        return text(tests);
    }

    /** So many shutters that count up and stay at the last state. */
    static String countsUp(int n) {
        String[] tests = new String[n];
        for (int k = 0; k < n; k++) {
            tests[k] = counting(k) + " or " + allOf(n);
        }
        return text(tests);
    }

    /** So many shutters that each stay as they are. */
    static String keeps(int n) {
        String[] tests = new String[n];
        for (int k = 0; k < n; k++) {
            tests[k] = bit(k);
        }
        return text(tests);
    }

    /** Bit k becomes the other one when all below it are open. */
    private static String counting(int k) {
        if (k == 0) {
            return "not " + bit(0);
        }
        return bit(k) + " and not[" + allOf(k) + "]or not " + bit(k) + " and " + allOf(k);
    }
}
