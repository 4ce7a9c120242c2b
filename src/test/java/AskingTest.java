/** Promises 6 to 10: the calls that change nothing. */
public final class AskingTest {
    public static void main(String[] args) {
        valueInTheLastInstant();
        valueIfNoInstantWas();
        valueOfNoFlow();
        kindOfTheDefinition();
        kindOfNoFlow();
        needsDirectlyOrOverOthers();
        needsOfNoFlow();
        instants();
        nextInstant();
        nextWithTheInputsAsTheyAre();
        nextOfNoFlow();
        changeNothing();
        changeNothingBetweenInstants();
        changeNothingThatTheNextInstantTakesUp();
        Check.end();
    }

    /** An object whose flows are CONST 100 to 117, so that no answer for a flow is 0. */
    private static Metronome constants() {
        Metronome x = new Metronome();
        for (int flow = 0; flow < Check.FLOWS; flow++) {
            x.define(flow, Check.CONST, 0, 100 + flow);
        }
        return x;
    }

    private static void valueInTheLastInstant() {
        Check.says("value: The flow's value in the last instant worked");
        Metronome x = constants();
        x.step(1);
        for (int flow = 0; flow < Check.FLOWS; flow++) {
            Check.due("value(" + flow + ")", x.value(flow), 100 + flow);
        }
        x.define(5, Check.INPUT, 0, 0);
        x.input(0, 9);
        Check.due("value(5) given anew, no instant worked since", x.value(5), 105);
        x.step(1);
        Check.due("value(5) given anew", x.value(5), 9);
    }

    private static void valueIfNoInstantWas() {
        Check.says("value: 0 if none was");
        Metronome x = constants();
        for (int flow = 0; flow < Check.FLOWS; flow++) {
            Check.due("value(" + flow + ") at the start", x.value(flow), 0);
        }
        x.step(0);
        x.next(3);
        Check.due("value(3) after step(0) and next(3)", x.value(3), 0);
        x.step(2);
        x.reset();
        for (int flow = 0; flow < Check.FLOWS; flow++) {
            Check.due("value(" + flow + ") after a reset", x.value(flow), 0);
        }
    }

    private static void valueOfNoFlow() {
        Check.says("value: also 0 if flow not in 0 to 17");
        Metronome x = constants();
        x.step(1);
        for (int flow : Check.NO_FLOWS) {
            Check.due("value(" + flow + ")", x.value(flow), 0);
        }
        Check.due("value(0)", x.value(0), 100);
        Check.due("value(17)", x.value(17), 117);
    }

    private static void kindOfTheDefinition() {
        Check.says("kind: The kind of the flow's definition");
        Metronome x = new Metronome();
        for (int kind = 0; kind <= 8; kind++) {
            x.define(kind, kind, Check.sab(17, 17, 17), 0);
        }
        for (int flow = 0; flow < Check.FLOWS; flow++) {
            Check.due("kind(" + flow + ")", x.kind(flow), flow <= 8 ? flow : Check.CONST);
        }
        x.define(17, Check.PRE, Check.a(0), 0);
        Check.due("kind(17)", x.kind(17), Check.PRE);
    }

    private static void kindOfNoFlow() {
        Check.says("kind: BAD_FLOW");
        Metronome x = new Metronome();
        for (int flow : Check.NO_FLOWS) {
            Check.due("kind(" + flow + ")", x.kind(flow), Metronome.BAD_FLOW);
        }
        Check.due("kind(0)", x.kind(0), Check.CONST);
        Check.due("kind(17)", x.kind(17), Check.CONST);
    }

    /** An object whose flow 17 needs flows 3, 2, 16, 4, 0, 6 and 7, the last four over others. */
    private static Metronome tree() {
        Metronome x = new Metronome();
        x.define(17, Check.MUX, Check.sab(3, 2, 16), 0);
        x.define(2, Check.HOLD, Check.as(4, 0), 0);
        x.define(4, Check.PRE, Check.a(5), 0);
        x.define(16, Check.LESS, Check.ab(6, 7), 0);
        return x;
    }

    private static void needsDirectlyOrOverOthers() {
        Check.says("needs: Whether flow a needs flow b, directly or over others");
        Metronome x = tree();
        boolean[] due = new boolean[Check.FLOWS];
        int[] needed = {3, 2, 16, 4, 0, 6, 7};
        for (int flow : needed) {
            due[flow] = true;
        }
        for (int flow = 0; flow < Check.FLOWS; flow++) {
            Check.due("needs(17, " + flow + ")", x.needs(17, flow), due[flow]);
            Check.due("needs(4, " + flow + ")", x.needs(4, flow), false);
            Check.due("needs(" + flow + ", 17)", x.needs(flow, 17), false);
            Check.due("needs(" + flow + ", itself)", x.needs(flow, flow), false);
        }
        x.define(2, Check.CONST, 0, 0);
        Check.due("needs(17, 0) when 2 needs none", x.needs(17, 0), false);
        Check.due("needs(17, 2) when 2 needs none", x.needs(17, 2), true);
    }

    private static void needsOfNoFlow() {
        Check.says("needs: false if one is not in 0 to 17");
        Metronome x = tree();
        for (int flow : Check.NO_FLOWS) {
            Check.due("needs(17, " + flow + ")", x.needs(17, flow), false);
            Check.due("needs(" + flow + ", 3)", x.needs(flow, 3), false);
            Check.due("needs(" + flow + ", itself)", x.needs(flow, flow), false);
        }
        // Shifts and masks take such numbers for flows that are needed, or that need.
        Check.due("needs(17, 3 + 32)", x.needs(17, 3 + 32), false);
        Check.due("needs(17, 3 - 32)", x.needs(17, 3 - 32), false);
        Check.due("needs(17 + 32, 3)", x.needs(17 + 32, 3), false);
        Check.due("needs(17 - 32, 3)", x.needs(17 - 32, 3), false);
        Check.due("needs(17, 3)", x.needs(17, 3), true);
    }

    private static void instants() {
        Check.says("instants: How many instants have been worked since the start or the last reset.");
        Metronome x = new Metronome();
        Check.due("instants()", x.instants(), 0);
        x.step(5);
        Check.due("instants() after 5", x.instants(), 5);
        x.step(1000);
        Check.due("instants() after 100 more", x.instants(), 105);
        x.step(-1);
        Check.due("instants() after none", x.instants(), 105);
        x.define(0, Check.CONST, 0, 1);
        x.next(0);
        Check.due("instants() after other calls", x.instants(), 105);
        x.reset();
        Check.due("instants() after a reset", x.instants(), 0);
        x.step(2);
        Check.due("instants() after 2", x.instants(), 2);
    }

    private static void nextInstant() {
        Check.says("next: The flow's value in the next instant, if it were worked now");
        for (int flow = 0; flow < Check.FLOWS; flow++) {
            Metronome x = Check.busy();
            for (int i = 0; i < 5; i++) {
                int next = x.next(flow);
                x.step(1);
                Check.due("next(" + flow + "), " + i + " instants on", next, x.value(flow));
            }
            x.reset();
            int next = x.next(flow);
            x.step(1);
            Check.due("next(" + flow + ") after a reset", next, x.value(flow));
        }
    }

    private static void nextWithTheInputsAsTheyAre() {
        Check.says("next: with the inputs as they are");
        Metronome x = new Metronome();
        x.define(0, Check.INPUT, 0, 0);
        x.define(1, Check.PRE, Check.a(0), 40);
        x.define(17, Check.ADD, Check.ab(0, 1), 0);
        x.input(0, 3);
        Check.due("next(17) with no instant", x.next(17), 43);
        x.step(1);
        Check.due("next(17)", x.next(17), 6);
        x.input(0, 8);
        Check.due("next(17) with another input", x.next(17), 11);
        Check.due("next(1) with another input", x.next(1), 3);
        x.define(1, Check.PRE, Check.a(0), 41);
        Check.due("next(17) with another definition", x.next(17), 49);
    }

    private static void nextOfNoFlow() {
        Check.says("next: 0 if flow not in 0 to 17");
        Metronome x = constants();
        x.step(1);
        for (int flow : Check.NO_FLOWS) {
            Check.due("next(" + flow + ")", x.next(flow), 0);
        }
        Check.due("next(0)", x.next(0), 100);
        Check.due("next(17)", x.next(17), 117);
    }

    private static void changeNothing() {
        Check.says("The calls below change nothing.");
        int[] flows = {0, 3, 4, 9, 10, 11, 17, -1, 18, Check.LEAST, Check.MOST};
        Metronome x = Check.busy();
        for (int flow : flows) {
            x.value(flow);
            x.kind(flow);
            x.needs(flow, 0);
            x.needs(8, flow);
            x.instants();
            x.next(flow);
        }
        Check.alike("after asking", x, Check.busy());
        Metronome y = new Metronome();
        for (int flow : flows) {
            y.value(flow);
            y.kind(flow);
            y.needs(flow, flow);
            y.instants();
            y.next(flow);
        }
        Check.alike("after asking a new object", y, new Metronome());
    }

    private static void changeNothingBetweenInstants() {
        Check.says("The calls below change nothing.");
        Metronome x = new Metronome();
        x.define(0, Check.PRE, Check.a(1), 0);
        x.define(2, Check.CONST, 0, 1);
        x.define(1, Check.ADD, Check.ab(0, 2), 0);
        x.define(3, Check.HOLD, Check.as(1, 4), 70);
        for (int i = 0; i < 10; i++) {
            for (int again = 0; again < 3; again++) {
                Check.due("value(1)", x.value(1), i);
                Check.due("next(1)", x.next(1), i + 1);
                Check.due("next(3)", x.next(3), 70);
                Check.due("value(3)", x.value(3), i == 0 ? 0 : 70);
                Check.due("kind(1)", x.kind(1), Check.ADD);
                Check.due("needs(1, 2)", x.needs(1, 2), true);
                Check.due("instants()", x.instants(), i);
            }
            Check.due("step(1)", x.step(1), i + 1);
        }
    }

    // What next works out with other inputs or definitions than those of the next instant must not be held on to.
    private static void changeNothingThatTheNextInstantTakesUp() {
        Check.says("The calls below change nothing.");
        Metronome x = new Metronome();
        x.define(0, Check.INPUT, 0, 0);
        x.define(1, Check.INPUT, 0, 1);
        x.define(2, Check.HOLD, Check.as(0, 1), 70);
        x.define(3, Check.PRE, Check.a(0), 80);
        x.step(2);
        x.input(0, 5);
        x.input(1, 1);
        Check.due("next(2) with s not 0", x.next(2), 5);
        x.input(1, 0);
        Check.due("next(2) with s 0 again", x.next(2), 70);
        x.input(1, 1);
        x.next(2);
        x.input(0, 6);
        x.input(1, 0);
        x.step(1);
        Check.due("HOLD after it", x.value(2), 70);
        Check.due("PRE after it", x.value(3), 0);
        x.define(2, Check.CONST, 0, 90);
        Check.due("next(2) of CONST", x.next(2), 90);
        Check.due("value(2)", x.value(2), 70);
        x.define(3, Check.PRE, Check.a(2), 81);
        x.step(1);
        x.define(2, Check.CONST, 0, 91);
        x.next(2);
        x.step(1);
        Check.due("PRE of what was CONST 90", x.value(3), 90);
    }
}
