/** Promise 3: input. */
public final class InputTest {
    public static void main(String[] args) {
        setsAnInput();
        numberIsTakenByItsLowestTwoBits();
        forAllInstantsFromNowOn();
        answersItsOldValue();
        Check.end();
    }

    private static void setsAnInput() {
        Check.says("Sets an input");
        for (int k = 0; k < 4; k++) {
            Metronome x = new Metronome();
            for (int flow = 0; flow < 4; flow++) {
                x.define(flow, Check.INPUT, 0, flow);
            }
            x.input(k, 9);
            for (int flow = 0; flow < 4; flow++) {
                Check.due("next of INPUT " + flow + " after input(" + k + ", 9)", x.next(flow), flow == k ? 9 : 0);
            }
        }
    }

    private static void numberIsTakenByItsLowestTwoBits() {
        Check.says("Sets an input (k & 3)");
        int[] numbers = {4, 5, 6, 7, 8, -1, -2, -3, -4, -5, 1 << 20, Check.LEAST, Check.LEAST + 1, Check.MOST};
        int[] inputs = {0, 1, 2, 3, 0, 3, 2, 1, 0, 3, 0, 0, 1, 3};
        for (int i = 0; i < numbers.length; i++) {
            Metronome x = new Metronome();
            for (int k = 0; k < 4; k++) {
                x.define(k, Check.INPUT, 0, k);
                x.input(k, 10 + k);
            }
            String call = "input(" + numbers[i] + ", 99)";
            Check.due(call, x.input(numbers[i], 99), 10 + inputs[i]);
            x.step(1);
            for (int k = 0; k < 4; k++) {
                Check.due("input " + k + " after " + call, x.value(k), k == inputs[i] ? 99 : 10 + k);
            }
        }
    }

    private static void forAllInstantsFromNowOn() {
        Check.says("for all instants from now on");
        Metronome x = new Metronome();
        x.define(0, Check.INPUT, 0, 2);
        x.define(1, Check.PRE, Check.a(0), 0);
        x.input(2, 5);
        Check.due("value(0) before an instant", x.value(0), 0);
        x.step(1);
        x.input(2, 6);
        Check.due("value(0) in the instant worked", x.value(0), 5);
        Check.due("instants()", x.instants(), 1);
        Check.due("next(0)", x.next(0), 6);
        x.step(1);
        Check.due("value(0) an instant later", x.value(0), 6);
        Check.due("what flow 0 had before the input was set", x.value(1), 5);
        x.step(30);
        Check.due("value(0) after many", x.value(0), 6);
        Check.due("instants() after many", x.instants(), 32);
        x.input(2, 7);
        x.input(2, 8);
        x.step(1);
        Check.due("value(0), the input set twice", x.value(0), 8);
        Check.due("what flow 0 had before", x.value(1), 6);
    }

    private static void answersItsOldValue() {
        Check.says("Answers its old value.");
        Metronome x = new Metronome();
        int[] values = {4, -9, Check.LEAST, Check.MOST, Check.MOST, 0};
        for (int k = 0; k < 4; k++) {
            int old = 0;
            for (int value : values) {
                Check.due("input(" + k + ", " + value + ")", x.input(k, value), old);
                old = value;
            }
        }
    }
}
