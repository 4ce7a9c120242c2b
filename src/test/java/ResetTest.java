/** Promise 5: reset. */
public final class ResetTest {
    public static void main(String[] args) {
        noInstantHasBeenWorked();
        definitionsAndInputsStay();
        firstInstantsAreAhead();
        resetOfANewObject();
        Check.end();
    }

    private static void noInstantHasBeenWorked() {
        Metronome x = new Metronome();
        for (int flow = 0; flow < Check.FLOWS; flow++) {
            x.define(flow, Check.CONST, 0, flow + 1);
        }
        x.step(7);
        x.reset();
        Check.due("instants()", x.instants(), 0);
        for (int flow = 0; flow < Check.FLOWS; flow++) {
            Check.due("value(" + flow + ")", x.value(flow), 0);
            Check.due("next(" + flow + ")", x.next(flow), flow + 1);
        }
        Check.due("step(0)", x.step(0), 0);
        Check.due("step(2)", x.step(2), 2);
    }

    private static void definitionsAndInputsStay() {
        Metronome x = new Metronome();
        x.define(0, Check.INPUT, 0, 3);
        x.define(1, Check.ADD, Check.ab(0, 2), 0);
        x.define(2, Check.CONST, 0, 4);
        for (int k = 0; k < 4; k++) {
            x.input(k, 10 + k);
        }
        x.step(1);
        x.reset();
        Check.due("kind(0)", x.kind(0), Check.INPUT);
        Check.due("kind(1)", x.kind(1), Check.ADD);
        Check.due("needs(1, 0)", x.needs(1, 0), true);
        Check.due("needs(1, 2)", x.needs(1, 2), true);
        Check.due("define(2) of 1", x.define(2, Check.ADD, Check.ab(1, 1), 0), Metronome.CIRCLE);
        x.step(1);
        Check.due("value(1)", x.value(1), 17);
        for (int k = 0; k < 4; k++) {
            Check.due("input(" + k + ", 0)", x.input(k, 0), 10 + k);
        }
    }

    private static void firstInstantsAreAhead() {
        Metronome x = new Metronome();
        x.define(0, Check.CONST, 0, 5);
        x.define(16, Check.PRE, Check.a(0), 50);
        x.define(17, Check.HOLD, Check.as(0, 1), 60);
        x.define(1, Check.INPUT, 0, 0);
        x.input(0, 1);
        x.step(3);
        x.input(0, 0);
        Check.due("next of PRE", x.next(16), 5);
        Check.due("next of HOLD", x.next(17), 5);
        x.reset();
        Check.due("next of PRE after reset", x.next(16), 50);
        Check.due("next of HOLD after reset", x.next(17), 60);
        x.step(1);
        Check.due("PRE after reset", x.value(16), 50);
        Check.due("HOLD after reset", x.value(17), 60);
        x.step(1);
        Check.due("PRE an instant later", x.value(16), 5);
        Check.due("HOLD an instant later", x.value(17), 60);
    }

    private static void resetOfANewObject() {
        Metronome x = new Metronome();
        x.reset();
        x.reset();
        Check.due("instants()", x.instants(), 0);
        Check.due("kind(0)", x.kind(0), Check.CONST);
        Check.due("step(1)", x.step(1), 1);
    }
}
