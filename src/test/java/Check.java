/** What the tests share: comparing answers, packing operands and the names of the kinds. */
final class Check {
    static final int INPUT = 0;
    static final int CONST = 1;
    static final int ADD = 2;
    static final int SUB = 3;
    static final int MUL = 4;
    static final int LESS = 5;
    static final int MUX = 6;
    static final int PRE = 7;
    static final int HOLD = 8;
    static final int FLOWS = 18;
    static final int LEAST = Integer.MIN_VALUE;
    static final int MOST = Integer.MAX_VALUE;

    /** Numbers that are no flows: next to the edges, equal to a flow in their low bits, and the ends of int. */
    static final int[] NO_FLOWS = {-1, 18, 19, 31, 32, 35, 256, -18, -32, 1 << 18, LEAST, MOST};

    private static String sentence = "";
    private static int wrong = 0;

    private Check() {
    }

    /** The document's words that the answers from here on are due by. */
    static void says(String words) {
        sentence = words;
    }

    static void due(String call, long got, long want) {
        if (got != want) {
            wrong++;
            System.out.println("\"" + sentence + "\": " + call + " answered " + got + ", due is " + want);
        }
    }

    static void due(String call, boolean got, boolean want) {
        due(call, got ? 1 : 0, want ? 1 : 0);
    }

    /**
     * That two objects answer alike to all that can be asked, now and an instant later. It takes 402 of the 512
     * calls that an object is good for.
     */
    static void alike(String when, Metronome x, Metronome y) {
        due(when + ": instants()", x.instants(), y.instants());
        for (int flow = 0; flow < FLOWS; flow++) {
            due(when + ": value(" + flow + ")", x.value(flow), y.value(flow));
            due(when + ": kind(" + flow + ")", x.kind(flow), y.kind(flow));
            due(when + ": next(" + flow + ")", x.next(flow), y.next(flow));
            for (int other = 0; other < FLOWS; other++) {
                due(when + ": needs(" + flow + ", " + other + ")", x.needs(flow, other), y.needs(flow, other));
            }
        }
        due(when + ": step(1)", x.step(1), y.step(1));
        for (int flow = 0; flow < FLOWS; flow++) {
            due(when + ", step(1): value(" + flow + ")", x.value(flow), y.value(flow));
        }
        for (int k = 0; k < 4; k++) {
            due(when + ": input(" + k + ", 0)", x.input(k, 0), y.input(k, 0));
        }
    }

    /**
     * An object with every kind of definition, with inputs set, with instants worked, and with definitions on both
     * sides of their first instant. It has had 23 calls.
     */
    static Metronome busy() {
        Metronome x = new Metronome();
        for (int k = 0; k < 4; k++) {
            x.input(k, 100 + 11 * k);
        }
        earlyDefinitions(x);
        x.step(3);
        x.input(3, 0);
        x.input(0, 1000);
        x.step(2);
        x.input(1, 2000);
        lateDefinitions(x);
        return x;
    }

    /** What the busy object has when its first instant is worked. */
    static void earlyDefinitions(Metronome x) {
        x.define(0, INPUT, 0, 0);
        x.define(1, INPUT, 0, 1);
        x.define(2, CONST, 0, 7);
        x.define(3, ADD, ab(0, 4), 0);
        x.define(4, PRE, a(3), -40);
        x.define(5, SUB, ab(1, 3), 0);
        x.define(6, MUL, ab(2, 5), 0);
        x.define(7, LESS, ab(5, 0), 0);
        x.define(8, MUX, sab(7, 6, 2), 0);
        x.define(9, HOLD, as(3, 14), 91);
        x.define(14, INPUT, 0, 3);
    }

    /** What the busy object has been given last, so that their first instants are ahead. */
    static void lateDefinitions(Metronome x) {
        x.define(10, PRE, a(9), 55);
        x.define(11, HOLD, as(10, 12), 66);
        x.define(17, ADD, ab(16, 11), 0);
    }

    /** To be called last: ends the program with 1 if an answer was wrong. */
    static void end() {
        System.out.println(wrong == 0 ? "all answers are as due" : wrong + " answers are not as due");
        if (wrong != 0) {
            System.exit(1);
        }
    }

    static int a(int a) {
        return a;
    }

    static int ab(int a, int b) {
        return a | b << 5;
    }

    static int as(int a, int s) {
        return a | s << 10;
    }

    static int sab(int s, int a, int b) {
        return a | b << 5 | s << 10;
    }

    /** Whether the kind names operand a. */
    static boolean namesA(int kind) {
        return kind >= ADD;
    }

    static boolean namesB(int kind) {
        return kind >= ADD && kind <= MUX;
    }

    static boolean namesS(int kind) {
        return kind == MUX || kind == HOLD;
    }
}
