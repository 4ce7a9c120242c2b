/** Promise 2: what define answers, what it refuses and that a refused call changes nothing. */
public final class DefineTest {
    public static void main(String[] args) {
        constants();
        insteadOfTheOneItHas();
        badFlow();
        badKind();
        badOperands();
        sameBadOperandTwice();
        badOperandOfPre();
        circle();
        testsInThisOrder();
        refusedChangesNothing();
        refusedMovesNoFirstInstant();
        howManyFlowsItNeeds();
        whatIsNamedTwiceCountsOnce();
        fewestAndMost();
        itselfNotCounted();
        Check.end();
    }

    private static void constants() {
        Check.says("BAD_FLOW = -1, BAD_KIND = -2, CIRCLE = -3");
        Check.due("BAD_FLOW", Metronome.BAD_FLOW, -1);
        Check.due("BAD_KIND", Metronome.BAD_KIND, -2);
        Check.due("CIRCLE", Metronome.CIRCLE, -3);
    }

    private static void insteadOfTheOneItHas() {
        Check.says("Gives a flow a definition instead of the one it has.");
        Metronome x = new Metronome();
        x.define(0, Check.ADD, Check.ab(1, 2), 0);
        x.define(1, Check.CONST, 0, 7);
        x.step(4);
        x.define(0, Check.CONST, Check.ab(1, 2), 8);
        Check.due("kind(0)", x.kind(0), Check.CONST);
        Check.due("needs(0, 1)", x.needs(0, 1), false);
        Check.due("value(0), no instant worked since", x.value(0), 7);
        Check.due("instants()", x.instants(), 4);
        Check.due("next(0)", x.next(0), 8);
        Check.due("kind(1)", x.kind(1), Check.CONST);
        Check.due("next(1)", x.next(1), 7);
        Check.due("1 may need 0 now", x.define(1, Check.ADD, Check.ab(0, 0), 0), 1);
    }

    private static void badFlow() {
        Check.says("flow not in 0 to 17: BAD_FLOW");
        Metronome x = new Metronome();
        for (int flow : Check.NO_FLOWS) {
            Check.due("define(" + flow + ", CONST)", x.define(flow, Check.CONST, 0, 1), Metronome.BAD_FLOW);
        }
        Check.due("define(0, CONST)", x.define(0, Check.CONST, 0, 1), 0);
        Check.due("define(17, CONST)", x.define(17, Check.CONST, 0, 1), 0);
    }

    private static void badKind() {
        Check.says("kind not in 0 to 8: BAD_KIND");
        Metronome x = new Metronome();
        int[] kinds = {-1, 9, 10, 16, 32, 257, Check.LEAST, Check.MOST};
        for (int kind : kinds) {
            Check.due("define(0, " + kind + ")", x.define(0, kind, Check.sab(1, 2, 3), 1), Metronome.BAD_KIND);
        }
        for (int kind = 0; kind <= 8; kind++) {
            Check.due("define(0, " + kind + ") refused", x.define(0, kind, Check.sab(1, 2, 3), 1) < 0, false);
            Check.due("kind(0)", x.kind(0), kind);
        }
    }

    private static void badOperands() {
        Check.says("an operand that the kind names is not in 0 to 17: BAD_FLOW");
        Metronome x = new Metronome();
        for (int kind = 0; kind <= 8; kind++) {
            for (int operand = 17; operand < 32; operand++) {
                boolean bad = operand != 17;
                boolean a = x.define(0, kind, Check.sab(1, operand, 1), 0) == Metronome.BAD_FLOW;
                boolean b = x.define(0, kind, Check.sab(1, 1, operand), 0) == Metronome.BAD_FLOW;
                boolean s = x.define(0, kind, Check.sab(operand, 1, 1), 0) == Metronome.BAD_FLOW;
                String end = " = " + operand + " refused";
                Check.due("kind " + kind + " with a" + end, a, bad && Check.namesA(kind));
                Check.due("kind " + kind + " with b" + end, b, bad && Check.namesB(kind));
                Check.due("kind " + kind + " with s" + end, s, bad && Check.namesS(kind));
            }
            boolean zero = x.define(1, kind, Check.sab(0, 0, 0), 0) == Metronome.BAD_FLOW;
            Check.due("kind " + kind + " with 0 as all refused", zero, false);
            x.define(1, Check.CONST, 0, 0);
        }
    }

    private static void sameBadOperandTwice() {
        Check.says("an operand that the kind names is not in 0 to 17: BAD_FLOW");
        Metronome x = new Metronome();
        for (int bad = 18; bad < 32; bad++) {
            int[] twice = {Check.sab(1, bad, bad), Check.sab(bad, bad, 1), Check.sab(bad, 1, bad)};
            for (int ops : twice) {
                Check.due("MUX with " + ops, x.define(0, Check.MUX, ops, 0), Metronome.BAD_FLOW);
            }
            Check.due("ADD of " + bad + " twice", x.define(0, Check.ADD, Check.ab(bad, bad), 0), Metronome.BAD_FLOW);
            Check.due("HOLD of " + bad + " twice", x.define(0, Check.HOLD, Check.as(bad, bad), 0), Metronome.BAD_FLOW);
        }
    }

    // PRE names a, so a must be a flow, also though PRE does not need it.
    private static void badOperandOfPre() {
        Check.says("an operand that the kind names is not in 0 to 17: BAD_FLOW; 7 PRE a c");
        Metronome x = new Metronome();
        x.define(1, Check.CONST, 0, 6);
        x.define(0, Check.PRE, Check.a(1), 5);
        x.step(1);
        for (int a = 18; a < 32; a++) {
            Check.due("PRE of " + a, x.define(0, Check.PRE, Check.a(a), 9), Metronome.BAD_FLOW);
            Check.due("PRE of " + a + " in place of CONST", x.define(2, Check.PRE, Check.a(a), 9), Metronome.BAD_FLOW);
        }
        Check.due("next(0) after them", x.next(0), 6);
        Check.due("kind(2) after them", x.kind(2), Check.CONST);
        for (int a = 0; a < Check.FLOWS; a++) {
            Check.due("PRE of " + a, x.define(0, Check.PRE, Check.a(a), 9), 0);
        }
    }

    private static void circle() {
        Check.says("some flow would need itself: CIRCLE");
        Metronome x = new Metronome();
        Check.due("0 may not need 0", x.define(0, Check.ADD, Check.ab(0, 1), 0), Metronome.CIRCLE);
        Check.due("0 needs 1", x.define(0, Check.ADD, Check.ab(1, 1), 0), 1);
        Check.due("1 may not need 0", x.define(1, Check.ADD, Check.ab(0, 0), 0), Metronome.CIRCLE);
        Check.due("0 needs 2 instead", x.define(0, Check.ADD, Check.ab(2, 2), 0), 1);
        Check.due("1 may need 0", x.define(1, Check.ADD, Check.ab(0, 0), 0), 2);
        Check.due("2 may not need 1", x.define(2, Check.MUX, Check.sab(5, 6, 1), 0), Metronome.CIRCLE);
        Check.due("2 may have 1 before", x.define(2, Check.PRE, Check.a(1), 0), 0);
        Check.due("2 may need 3", x.define(2, Check.MUX, Check.sab(5, 6, 3), 0), 3);
        Check.due("3 may not need 0", x.define(3, Check.HOLD, Check.as(4, 0), 0), Metronome.CIRCLE);
    }

    private static void testsInThisOrder() {
        Check.says("Tests in this order");
        Metronome x = new Metronome();
        Check.due("bad flow, kind", x.define(18, 9, 0, 0), Metronome.BAD_FLOW);
        Check.due("bad flow, kind, operands", x.define(-1, -1, -1, 0), Metronome.BAD_FLOW);
        Check.due("bad flow, operand", x.define(18, Check.ADD, Check.ab(18, 0), 0), Metronome.BAD_FLOW);
        Check.due("bad kind above, operands", x.define(0, 9, -1, 0), Metronome.BAD_KIND);
        Check.due("bad kind below, operands", x.define(0, -1, -1, 0), Metronome.BAD_KIND);
        Check.due("bad kind, itself", x.define(0, 9, Check.sab(0, 0, 0), 0), Metronome.BAD_KIND);
        Check.due("a itself, b bad", x.define(0, Check.ADD, Check.ab(0, 18), 0), Metronome.BAD_FLOW);
        Check.due("a bad, b itself", x.define(0, Check.ADD, Check.ab(31, 0), 0), Metronome.BAD_FLOW);
        Check.due("a itself, s bad", x.define(0, Check.HOLD, Check.as(0, 18), 0), Metronome.BAD_FLOW);
        Check.due("a and b itself, s bad", x.define(0, Check.MUX, Check.sab(18, 0, 0), 0), Metronome.BAD_FLOW);
        Check.due("PRE of no flow", x.define(0, Check.PRE, Check.a(18), 0), Metronome.BAD_FLOW);
    }

    private static void refusedChangesNothing() {
        Check.says("A refused call changes nothing.");
        int[][] refused = {
            {-1, Check.CONST, 0, 99, Metronome.BAD_FLOW},
            {18, Check.CONST, 0, 99, Metronome.BAD_FLOW},
            {Check.MOST, Check.INPUT, 0, 99, Metronome.BAD_FLOW},
            {9, 9, 0, 99, Metronome.BAD_KIND},
            {4, -1, 0, 99, Metronome.BAD_KIND},
            {2, Check.LEAST, 0, 99, Metronome.BAD_KIND},
            {4, Check.PRE, Check.a(18), 99, Metronome.BAD_FLOW},
            {9, Check.HOLD, Check.as(2, 31), 99, Metronome.BAD_FLOW},
            {8, Check.MUX, Check.sab(0, 1, 20), 99, Metronome.BAD_FLOW},
            {3, Check.ADD, Check.ab(2, 18), 99, Metronome.BAD_FLOW},
            {3, Check.ADD, Check.ab(8, 2), 99, Metronome.CIRCLE},
            {9, Check.HOLD, Check.as(2, 9), 99, Metronome.CIRCLE},
            {0, Check.MUL, Check.ab(2, 6), 99, Metronome.CIRCLE},
            {10, Check.ADD, Check.ab(17, 17), 99, Metronome.CIRCLE},
        };
        for (int[] call : refused) {
            Metronome x = Check.busy();
            String text = "define(" + call[0] + ", " + call[1] + ", " + call[2] + ", " + call[3] + ")";
            Check.due(text, x.define(call[0], call[1], call[2], call[3]), call[4]);
            Check.alike("after " + text, x, Check.busy());
        }
        Metronome x = Check.busy();
        for (int[] call : refused) {
            x.define(call[0], call[1], call[2], call[3]);
        }
        Check.alike("after all refused calls", x, Check.busy());
    }

    /** Calls for flow 0 that are refused, one by each test that comes after the flow's own. */
    private static void refusedForFlowZero(Metronome x) {
        Check.due("bad kind", x.define(0, 9, 0, 60), Metronome.BAD_KIND);
        Check.due("bad operand", x.define(0, Check.PRE, Check.a(18), 60), Metronome.BAD_FLOW);
        Check.due("circle", x.define(0, Check.HOLD, Check.as(0, 0), 60), Metronome.CIRCLE);
    }

    private static void refusedMovesNoFirstInstant() {
        Check.says("A refused call changes nothing.");
        Metronome x = new Metronome();
        x.define(1, Check.CONST, 0, 7);
        x.step(1);
        x.define(0, Check.PRE, Check.a(1), 50);
        refusedForFlowZero(x);
        Check.due("next(0), its first instant ahead", x.next(0), 50);
        x.step(1);
        refusedForFlowZero(x);
        Check.due("next(0), its first instant behind", x.next(0), 7);
    }

    private static void howManyFlowsItNeeds() {
        Check.says("Else answers how many flows it needs over any number of steps");
        Metronome x = new Metronome();
        Check.due("MUX of three", x.define(0, Check.MUX, Check.sab(1, 2, 3), 0), 3);
        Check.due("MUX of one", x.define(4, Check.MUX, Check.sab(5, 5, 5), 0), 1);
        Check.due("HOLD of two", x.define(6, Check.HOLD, Check.as(7, 8), 0), 2);
        Check.due("what is needed twice counts once", x.define(1, Check.ADD, Check.ab(2, 3), 0), 2);
        Check.due("given again", x.define(0, Check.MUX, Check.sab(1, 2, 3), 0), 3);
        Check.due("over others", x.define(9, Check.SUB, Check.ab(0, 4), 0), 6);
        Check.due("PRE needs none", x.define(10, Check.PRE, Check.a(9), 0), 0);
        Check.due("PRE is needed, what it names is not", x.define(11, Check.LESS, Check.ab(10, 10), 0), 1);
        Check.due("INPUT needs none", x.define(9, Check.INPUT, Check.ab(0, 4), 0), 0);
        Check.due("old needs are gone", x.define(12, Check.MUL, Check.ab(9, 9), 0), 1);
        Check.due("over others and flow 17", x.define(13, Check.HOLD, Check.as(6, 17), 0), 4);
    }

    private static void whatIsNamedTwiceCountsOnce() {
        Check.says("Else answers how many flows it needs over any number of steps");
        Metronome x = new Metronome();
        Check.due("MUX, a and b the same", x.define(0, Check.MUX, Check.sab(1, 2, 2), 0), 2);
        Check.due("it needs both", x.needs(0, 1) && x.needs(0, 2), true);
        Check.due("MUX, s and a the same", x.define(0, Check.MUX, Check.sab(3, 3, 4), 0), 2);
        Check.due("it needs both", x.needs(0, 3) && x.needs(0, 4), true);
        Check.due("MUX, s and b the same", x.define(0, Check.MUX, Check.sab(5, 6, 5), 0), 2);
        Check.due("it needs both", x.needs(0, 5) && x.needs(0, 6), true);
        Check.due("ADD of one", x.define(0, Check.ADD, Check.ab(7, 7), 0), 1);
        Check.due("it needs that", x.needs(0, 7), true);
        Check.due("HOLD of one", x.define(0, Check.HOLD, Check.as(8, 8), 0), 1);
        Check.due("it needs that", x.needs(0, 8), true);
        // Flow 10 is needed over 11 and over 12.
        x.define(11, Check.ADD, Check.ab(10, 13), 0);
        x.define(12, Check.ADD, Check.ab(14, 10), 0);
        Check.due("SUB of two that need the same", x.define(0, Check.SUB, Check.ab(11, 12), 0), 5);
    }

    private static void fewestAndMost() {
        Check.says("Else answers how many flows it needs over any number of steps");
        Metronome x = new Metronome();
        Check.due("fewest", x.define(16, Check.CONST, 0, 0), 0);
        for (int flow = 15; flow >= 0; flow--) {
            int needed = 16 - flow;
            Check.due("flow " + flow + " of a chain", x.define(flow, Check.MUL, Check.ab(flow + 1, 16), 0), needed);
        }
        Check.due("most", x.define(17, Check.MUX, Check.sab(0, 0, 16), 0), 17);
        Check.due("most, given again", x.define(17, Check.MUX, Check.sab(0, 0, 16), 0), 17);
    }

    private static void itselfNotCounted() {
        Check.says("itself not counted");
        Metronome x = new Metronome();
        Check.due("PRE of itself", x.define(0, Check.PRE, Check.a(0), 0), 0);
        Check.due("ADD of two", x.define(1, Check.ADD, Check.ab(0, 2), 0), 2);
        // Flow 2 names flow 1, which needs it, but only as what was before.
        Check.due("PRE of what needs it", x.define(2, Check.PRE, Check.a(1), 0), 0);
        Check.due("the ADD again", x.define(1, Check.ADD, Check.ab(0, 2), 0), 2);
        Check.due("given anew while others need it", x.define(2, Check.ADD, Check.ab(3, 4), 0), 2);
        Check.due("the ADD over them", x.define(1, Check.ADD, Check.ab(0, 2), 0), 4);
    }
}
