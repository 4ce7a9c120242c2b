/** Promise 2: what define answers, what it refuses and that a refused call changes nothing. */
public final class DefineTest {
    public static void main(String[] args) {
        constants();
        badFlow();
        badKind();
        badOperands();
        operandsNotNamedAreNotLookedAt();
        testsComeInOrder();
        circles();
        preClosesNoCircle();
        circleBrokenByTheNewDefinition();
        answersHowManyFlowsAreNeeded();
        refusedChangesNothing();
        refusedKeepsTheFirstInstantBehind();
        definingKeepsTheLastInstant();
        Check.end();
    }

    private static void constants() {
        Check.due("BAD_FLOW", Metronome.BAD_FLOW, -1);
        Check.due("BAD_KIND", Metronome.BAD_KIND, -2);
        Check.due("CIRCLE", Metronome.CIRCLE, -3);
    }

    private static void badFlow() {
        Metronome x = new Metronome();
        for (int flow : Check.NO_FLOWS) {
            Check.due("define(" + flow + ", CONST)", x.define(flow, Check.CONST, 0, 1), Metronome.BAD_FLOW);
        }
        Check.due("define(0, CONST)", x.define(0, Check.CONST, 0, 1), 0);
        Check.due("define(17, CONST)", x.define(17, Check.CONST, 0, 1), 0);
    }

    private static void badKind() {
        Metronome x = new Metronome();
        int[] kinds = {-1, 9, 10, 32, Integer.MIN_VALUE, Integer.MAX_VALUE};
        for (int kind : kinds) {
            Check.due("define(0, " + kind + ")", x.define(0, kind, Check.sab(1, 2, 3), 1), Metronome.BAD_KIND);
        }
        for (int kind = 0; kind <= 8; kind++) {
            Check.due("define(0, " + kind + ") refused", x.define(0, kind, Check.sab(1, 2, 3), 1) < 0, false);
            Check.due("kind(0)", x.kind(0), kind);
        }
    }

    private static boolean namesA(int kind) {
        return kind >= Check.ADD;
    }

    private static boolean namesB(int kind) {
        return kind >= Check.ADD && kind <= Check.MUX;
    }

    private static boolean namesS(int kind) {
        return kind == Check.MUX || kind == Check.HOLD;
    }

    private static void badOperands() {
        Metronome x = new Metronome();
        for (int kind = 0; kind <= 8; kind++) {
            for (int bad = 17; bad < 32; bad++) {
                boolean isFlow = bad == 17;
                boolean a = x.define(0, kind, Check.sab(1, bad, 1), 0) == Metronome.BAD_FLOW;
                boolean b = x.define(0, kind, Check.sab(1, 1, bad), 0) == Metronome.BAD_FLOW;
                boolean s = x.define(0, kind, Check.sab(bad, 1, 1), 0) == Metronome.BAD_FLOW;
                Check.due("kind " + kind + " with a = " + bad + " refused", a, !isFlow && namesA(kind));
                Check.due("kind " + kind + " with b = " + bad + " refused", b, !isFlow && namesB(kind));
                Check.due("kind " + kind + " with s = " + bad + " refused", s, !isFlow && namesS(kind));
            }
        }
    }

    private static void operandsNotNamedAreNotLookedAt() {
        Metronome x = new Metronome();
        x.define(1, Check.CONST, -1, 6);
        x.define(2, Check.INPUT, -1, 1);
        x.define(3, Check.ADD, Check.sab(31, 1, 1) | 0xFFFF8000, 9);
        x.define(4, Check.PRE, Check.sab(31, 1, 31), 9);
        x.define(5, Check.HOLD, Check.sab(1, 1, 31), 9);
        x.input(1, 8);
        x.step(2);
        Check.due("CONST 6", x.value(1), 6);
        Check.due("INPUT 1", x.value(2), 8);
        Check.due("ADD 1 1", x.value(3), 12);
        Check.due("PRE 1 9", x.value(4), 6);
        Check.due("HOLD 1 1 9", x.value(5), 6);
        Check.due("ADD 1 1 with itself as s", x.define(6, Check.ADD, Check.sab(6, 1, 1), 0), 1);
        Check.due("HOLD 1 1 with itself as b", x.define(7, Check.HOLD, Check.sab(1, 1, 7), 0), 1);
        Check.due("CONST with itself as all", x.define(8, Check.CONST, Check.sab(8, 8, 8), 0), 0);
        Check.due("INPUT with itself as all", x.define(8, Check.INPUT, Check.sab(8, 8, 8), 0), 0);
    }

    private static void testsComeInOrder() {
        Metronome x = new Metronome();
        Check.due("bad flow and kind", x.define(18, 9, 31, 0), Metronome.BAD_FLOW);
        Check.due("bad kind and operand", x.define(0, 9, 31, 0), Metronome.BAD_KIND);
        Check.due("bad operand and circle", x.define(0, Check.ADD, Check.ab(0, 18), 0), Metronome.BAD_FLOW);
        Check.due("bad operand and circle", x.define(0, Check.ADD, Check.ab(31, 0), 0), Metronome.BAD_FLOW);
        Check.due("PRE of no flow", x.define(0, Check.PRE, Check.a(18), 0), Metronome.BAD_FLOW);
    }

    private static void circles() {
        for (int kind = Check.ADD; kind <= Check.HOLD; kind++) {
            Metronome x = new Metronome();
            boolean a = x.define(4, kind, Check.sab(1, 4, 1), 0) == Metronome.CIRCLE;
            boolean b = x.define(4, kind, Check.sab(1, 1, 4), 0) == Metronome.CIRCLE;
            boolean s = x.define(4, kind, Check.sab(4, 1, 1), 0) == Metronome.CIRCLE;
            Check.due("kind " + kind + " of itself as a is a circle", a, kind != Check.PRE);
            Check.due("kind " + kind + " of itself as b is a circle", b, namesB(kind));
            Check.due("kind " + kind + " of itself as s is a circle", s, namesS(kind));
        }
        longCircle(true);
        longCircle(false);
    }

    // Both ways round, as a search that goes through the flows in one order may be cut short in the other.
    private static void longCircle(boolean up) {
        Metronome x = new Metronome();
        for (int i = 1; i < Check.FLOWS; i++) {
            int flow = up ? i : 17 - i;
            int before = up ? i - 1 : 18 - i;
            Check.due("flow " + flow + " of a chain", x.define(flow, Check.ADD, Check.ab(before, before), 0), i);
        }
        int foot = up ? 0 : 17;
        int head = up ? 17 : 0;
        Check.due("circle over all", x.define(foot, Check.HOLD, Check.as(head, head), 0), Metronome.CIRCLE);
        Check.due("PRE over all", x.define(foot, Check.PRE, Check.a(head), 0), 0);
        Check.due("needs(head, foot)", x.needs(head, foot), true);
    }

    private static void preClosesNoCircle() {
        Metronome x = new Metronome();
        Check.due("PRE of itself", x.define(0, Check.PRE, Check.a(0), 3), 0);
        Check.due("ADD of itself over PRE", x.define(1, Check.PRE, Check.a(2), 0), 0);
        Check.due("ADD of itself over PRE", x.define(2, Check.ADD, Check.ab(1, 0), 0), 2);
        Check.due("ADD in place of that PRE", x.define(1, Check.ADD, Check.ab(2, 0), 0), Metronome.CIRCLE);
    }

    private static void circleBrokenByTheNewDefinition() {
        Metronome x = new Metronome();
        Check.due("0 needs 1", x.define(0, Check.ADD, Check.ab(1, 1), 0), 1);
        Check.due("1 may not need 0", x.define(1, Check.ADD, Check.ab(0, 0), 0), Metronome.CIRCLE);
        Check.due("0 needs 2 instead", x.define(0, Check.ADD, Check.ab(2, 2), 0), 1);
        Check.due("1 may need 0", x.define(1, Check.ADD, Check.ab(0, 0), 0), 2);
        Check.due("2 may not need 1", x.define(2, Check.MUX, Check.sab(5, 6, 1), 0), Metronome.CIRCLE);
    }

    private static void answersHowManyFlowsAreNeeded() {
        Metronome x = new Metronome();
        Check.due("MUX of three", x.define(0, Check.MUX, Check.sab(1, 2, 3), 0), 3);
        Check.due("MUX of one", x.define(4, Check.MUX, Check.sab(5, 5, 5), 0), 1);
        Check.due("HOLD of two", x.define(6, Check.HOLD, Check.as(7, 8), 0), 2);
        Check.due("what is needed twice counts once", x.define(1, Check.ADD, Check.ab(2, 3), 0), 2);
        Check.due("given again", x.define(0, Check.MUX, Check.sab(1, 2, 3), 0), 3);
        Check.due("over others", x.define(9, Check.SUB, Check.ab(0, 4), 0), 6);
        Check.due("PRE needs none", x.define(10, Check.PRE, Check.a(9), 0), 0);
        Check.due("PRE is needed, what it names is not", x.define(11, Check.LESS, Check.ab(10, 10), 0), 1);
        Check.due("INPUT needs none", x.define(9, Check.INPUT, Check.ab(0, 4), 0), 0);
        Check.due("old needs are gone", x.define(12, Check.MUL, Check.ab(9, 9), 0), 1);
        Check.due("over others and flow 17", x.define(13, Check.HOLD, Check.as(6, 17), 0), 4);
    }

    private static void refusedChangesNothing() {
        Metronome x = new Metronome();
        x.define(1, Check.CONST, 0, 5);
        x.define(0, Check.ADD, Check.ab(1, 1), 0);
        x.define(0, 9, 0, 1);
        x.define(0, Check.MUL, Check.ab(2, 18), 1);
        x.define(0, Check.MUL, Check.ab(0, 3), 1);
        x.define(0, -1, 0, 1);
        x.define(1, Check.SUB, Check.ab(0, 0), 1);
        Check.due("kind(0)", x.kind(0), Check.ADD);
        Check.due("kind(1)", x.kind(1), Check.CONST);
        Check.due("needs(0, 1)", x.needs(0, 1), true);
        Check.due("needs(0, 2)", x.needs(0, 2), false);
        Check.due("needs(0, 3)", x.needs(0, 3), false);
        Check.due("needs(1, 0)", x.needs(1, 0), false);
        Check.due("next(0)", x.next(0), 10);
        Check.due("next(1)", x.next(1), 5);
    }

    private static void refusedKeepsTheFirstInstantBehind() {
        Metronome x = new Metronome();
        x.define(0, Check.PRE, Check.a(1), 50);
        x.define(1, Check.CONST, 0, 7);
        x.step(1);
        x.define(0, Check.PRE, Check.a(18), 60);
        x.define(0, Check.HOLD, Check.as(0, 0), 60);
        x.define(0, 9, 0, 60);
        Check.due("next(0) after refused calls", x.next(0), 7);
    }

    private static void definingKeepsTheLastInstant() {
        Metronome x = new Metronome();
        x.define(0, Check.CONST, 0, 7);
        x.step(4);
        x.define(0, Check.CONST, 0, 8);
        Check.due("value(0)", x.value(0), 7);
        Check.due("instants()", x.instants(), 4);
        Check.due("next(0)", x.next(0), 8);
    }
}
