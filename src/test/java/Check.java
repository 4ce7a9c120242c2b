/** What the tests share: comparing answers, packing operands and the names of the kinds. */
final class Check {
    static final int INPUT = 0;
    static final int CONST = 1;
    static final int ADD = 2;
    static final int SUB = 3;
    static final int MUL = 4;
    static final int LESS = 5;
    static final int MUX = 6;
    static final int PRE = 7;
    static final int HOLD = 8;
    static final int FLOWS = 18;

    /** Numbers that are no flows. */
    static final int[] NO_FLOWS = {-1, 18, 19, 31, 32, -18, 1 << 18, Integer.MIN_VALUE, Integer.MAX_VALUE};

    private static int wrong = 0;

    private Check() {
    }

    static void due(String call, long got, long want) {
        if (got != want) {
            wrong++;
            System.out.println(call + " answered " + got + ", due is " + want);
        }
    }

    static void due(String call, boolean got, boolean want) {
        due(call, got ? 1 : 0, want ? 1 : 0);
    }

    /** To be called last: ends the program with 1 if an answer was wrong. */
    static void end() {
        System.out.println(wrong == 0 ? "all answers are as due" : wrong + " answers are not as due");
        if (wrong != 0) {
            System.exit(1);
        }
    }

    static int a(int a) {
        return a;
    }

    static int ab(int a, int b) {
        return a | b << 5;
    }

    static int as(int a, int s) {
        return a | s << 10;
    }

    static int sab(int s, int a, int b) {
        return a | b << 5 | s << 10;
    }
}
