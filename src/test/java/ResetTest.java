/** Promise 5: reset. */
public final class ResetTest {
    public static void main(String[] args) {
        noInstantHasBeenWorked();
        definitionsStay();
        inputsStay();
        allDefinitionsHaveTheirFirstInstantBeforeThem();
        asAtTheStart();
        resetAtTheStart();
        resetTwice();
        Check.end();
    }

    private static void noInstantHasBeenWorked() {
        Check.says("no instant has been worked");
        Metronome x = new Metronome();
        for (int flow = 0; flow < Check.FLOWS; flow++) {
            x.define(flow, Check.CONST, 0, flow + 1);
        }
        x.step(7);
        x.reset();
        Check.due("instants()", x.instants(), 0);
        for (int flow = 0; flow < Check.FLOWS; flow++) {
            Check.due("value(" + flow + ")", x.value(flow), 0);
            Check.due("next(" + flow + ")", x.next(flow), flow + 1);
        }
        Check.due("step(0)", x.step(0), 0);
        Check.due("value(0) after step(0)", x.value(0), 0);
        Check.due("step(2)", x.step(2), 2);
        Check.due("value(0) after step(2)", x.value(0), 1);
    }

    private static void definitionsStay() {
        Check.says("definitions and inputs stay: definitions");
        Metronome x = new Metronome();
        for (int kind = 0; kind <= 8; kind++) {
            x.define(kind, kind, Check.sab(17, 16, 15), 14);
        }
        x.define(17, Check.ADD, Check.ab(9, 10), 0);
        x.step(1);
        x.reset();
        for (int flow = 0; flow < Check.FLOWS; flow++) {
            int kind = flow <= 8 ? flow : flow == 17 ? Check.ADD : Check.CONST;
            Check.due("kind(" + flow + ")", x.kind(flow), kind);
            Check.due("needs(6, " + flow + ")", x.needs(6, flow), flow >= 15 || flow == 9 || flow == 10);
        }
        Check.due("define(9) of 6", x.define(9, Check.ADD, Check.ab(6, 6), 0), Metronome.CIRCLE);
        Check.due("next of CONST 14", x.next(1), 14);
    }

    private static void inputsStay() {
        Check.says("definitions and inputs stay: inputs");
        Metronome x = new Metronome();
        for (int k = 0; k < 4; k++) {
            x.define(k, Check.INPUT, 0, k);
            x.input(k, 10 + k);
        }
        x.step(1);
        x.reset();
        x.step(1);
        for (int k = 0; k < 4; k++) {
            Check.due("value of INPUT " + k, x.value(k), 10 + k);
            Check.due("input(" + k + ", 0)", x.input(k, 0), 10 + k);
        }
    }

    private static void allDefinitionsHaveTheirFirstInstantBeforeThem() {
        Check.says("all definitions have their first instant before them");
        Metronome x = new Metronome();
        for (int flow = 0; flow < Check.FLOWS; flow++) {
            x.define(flow, Check.PRE, Check.a((flow + 1) % Check.FLOWS), 50 + flow);
        }
        x.step(2);
        Check.due("next(17)", x.next(17), 51);
        x.reset();
        for (int flow = 0; flow < Check.FLOWS; flow++) {
            Check.due("next(" + flow + ") of PRE", x.next(flow), 50 + flow);
        }
        x.step(1);
        for (int flow = 0; flow < Check.FLOWS; flow++) {
            Check.due("value(" + flow + ") of PRE", x.value(flow), 50 + flow);
        }
        x.step(1);
        Check.due("value(17) an instant later", x.value(17), 50);
        for (int flow = 0; flow < 17; flow++) {
            x.define(flow, Check.HOLD, Check.as(17, 17), 70 + flow);
        }
        x.define(17, Check.INPUT, 0, 0);
        x.input(0, 3);
        x.step(1);
        x.input(0, 0);
        Check.due("next(0) of HOLD", x.next(0), 3);
        x.reset();
        x.step(2);
        for (int flow = 0; flow < 17; flow++) {
            Check.due("value(" + flow + ") of HOLD", x.value(flow), 70 + flow);
        }
    }

    private static void asAtTheStart() {
        Check.says("As at the start, but that definitions and inputs stay");
        Metronome x = Check.busy();
        x.reset();
        // The inputs and definitions that the busy object has, with no instant worked between.
        Metronome y = new Metronome();
        y.input(0, 1000);
        y.input(1, 2000);
        y.input(2, 122);
        Check.earlyDefinitions(y);
        Check.lateDefinitions(y);
        Check.alike("after a reset", x, y);
    }

    private static void resetAtTheStart() {
        Check.says("As at the start");
        Metronome x = new Metronome();
        x.reset();
        Check.alike("after a reset of a new object", x, new Metronome());
    }

    private static void resetTwice() {
        Check.says("As at the start");
        Metronome x = Check.busy();
        x.reset();
        Metronome y = Check.busy();
        y.reset();
        y.reset();
        Check.alike("after a second reset", y, x);
    }
}
