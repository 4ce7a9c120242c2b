/** Promise 1: what a new object is. */
public final class NewObjectTest {
    public static void main(String[] args) {
        everyFlowIsConstZero();
        everyInputIsZero();
        noInstantHasBeenWorked();
        objectsAreApart();
        Check.end();
    }

    private static void everyFlowIsConstZero() {
        Metronome x = new Metronome();
        for (int flow = 0; flow < Check.FLOWS; flow++) {
            Check.due("kind(" + flow + ")", x.kind(flow), Check.CONST);
            Check.due("next(" + flow + ")", x.next(flow), 0);
            Check.due("value(" + flow + ")", x.value(flow), 0);
            for (int other = 0; other < Check.FLOWS; other++) {
                Check.due("needs(" + flow + ", " + other + ")", x.needs(flow, other), false);
            }
        }
        x.step(3);
        for (int flow = 0; flow < Check.FLOWS; flow++) {
            Check.due("value(" + flow + ") after step(3)", x.value(flow), 0);
        }
    }

    private static void everyInputIsZero() {
        Metronome x = new Metronome();
        for (int k = 0; k < 4; k++) {
            x.define(k, Check.INPUT, 0, k);
            Check.due("next of input " + k, x.next(k), 0);
        }
        for (int k = 0; k < 4; k++) {
            Check.due("input(" + k + ", 5)", x.input(k, 5), 0);
        }
    }

    private static void noInstantHasBeenWorked() {
        Metronome x = new Metronome();
        Check.due("instants()", x.instants(), 0);
        Check.due("step(0)", x.step(0), 0);
        Check.due("step(1)", x.step(1), 1);
    }

    private static void objectsAreApart() {
        Metronome x = new Metronome();
        Metronome y = new Metronome();
        x.define(0, Check.INPUT, 0, 0);
        x.input(0, 7);
        x.step(2);
        Check.due("the other's kind(0)", y.kind(0), Check.CONST);
        Check.due("the other's input(0, 1)", y.input(0, 1), 0);
        Check.due("the other's instants()", y.instants(), 0);
        Check.due("the other's value(0)", y.value(0), 0);
        Check.due("value(0)", x.value(0), 7);
    }
}
