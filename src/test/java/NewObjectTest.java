/** Promise 1: what a new object is. */
public final class NewObjectTest {
    public static void main(String[] args) {
        everyFlowIsConstZero();
        everyInputIsZero();
        noInstantHasBeenWorked();
        objectsAreApart();
        Check.end();
    }

    private static void everyFlowIsConstZero() {
        Check.says("Every flow is CONST 0");
        Metronome x = new Metronome();
        for (int flow = 0; flow < Check.FLOWS; flow++) {
            Check.due("kind(" + flow + ")", x.kind(flow), Check.CONST);
            Check.due("next(" + flow + ")", x.next(flow), 0);
            for (int other = 0; other < Check.FLOWS; other++) {
                Check.due("needs(" + flow + ", " + other + ")", x.needs(flow, other), false);
            }
        }
        x.step(3);
        for (int flow = 0; flow < Check.FLOWS; flow++) {
            Check.due("value(" + flow + ") after step(3)", x.value(flow), 0);
        }
    }

    private static void everyInputIsZero() {
        Check.says("every input 0");
        Metronome x = new Metronome();
        for (int k = 0; k < 4; k++) {
            x.define(k, Check.INPUT, 0, k);
            Check.due("next of input " + k, x.next(k), 0);
        }
        for (int k = 0; k < 4; k++) {
            Check.due("input(" + k + ", 5)", x.input(k, 5), 0);
        }
    }

    private static void noInstantHasBeenWorked() {
        Check.says("no instant has been worked");
        Metronome x = new Metronome();
        Check.due("instants()", x.instants(), 0);
        Check.due("step(0)", x.step(0), 0);
        for (int flow = 0; flow < Check.FLOWS; flow++) {
            Check.due("value(" + flow + ")", x.value(flow), 0);
        }
        x.define(0, Check.PRE, Check.a(0), 6);
        x.define(1, Check.HOLD, Check.as(2, 2), 7);
        Check.due("next of PRE", x.next(0), 6);
        Check.due("next of HOLD", x.next(1), 7);
        Check.due("step(1)", x.step(1), 1);
    }

    private static void objectsAreApart() {
        Check.says("A new object");
        Metronome x = Check.busy();
        Metronome y = new Metronome();
        x.step(2);
        int value = x.value(0);
        Check.alike("beside a used object", y, new Metronome());
        Check.due("value(0) of the used one", x.value(0), value);
        Check.due("instants() of the used one", x.instants(), 7);
    }
}
