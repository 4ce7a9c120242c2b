/** Promise 3: input. */
public final class InputTest {
    public static void main(String[] args) {
        answersTheOldValue();
        onlyTheLowestTwoBitsCount();
        holdsFromNowOn();
        Check.end();
    }

    private static void answersTheOldValue() {
        Metronome x = new Metronome();
        int[] values = {4, -9, Integer.MIN_VALUE, Integer.MAX_VALUE, 0};
        for (int k = 0; k < 4; k++) {
            int old = 0;
            for (int value : values) {
                Check.due("input(" + k + ", " + value + ")", x.input(k, value), old);
                old = value;
            }
        }
    }

    private static void onlyTheLowestTwoBitsCount() {
        Metronome x = new Metronome();
        x.input(4, 10);
        x.input(-3, 11);
        x.input(Integer.MAX_VALUE - 1, 12);
        x.input(-1, 13);
        for (int k = 0; k < 4; k++) {
            x.define(k, Check.INPUT, 0, k);
            x.define(k + 4, Check.INPUT, 0, k - 4);
            x.define(k + 8, Check.INPUT, 0, k + (1 << 20));
        }
        x.step(1);
        for (int flow = 0; flow < 12; flow++) {
            Check.due("value(" + flow + ")", x.value(flow), 10 + (flow & 3));
        }
        Check.due("input(8, 0)", x.input(8, 0), 10);
        Check.due("input(MIN_VALUE, 0)", x.input(Integer.MIN_VALUE, 0), 0);
        Check.due("input(7, 0)", x.input(7, 0), 13);
    }

    private static void holdsFromNowOn() {
        Metronome x = new Metronome();
        x.define(0, Check.INPUT, 0, 2);
        x.input(2, 5);
        Check.due("value(0) before an instant", x.value(0), 0);
        x.step(1);
        x.input(2, 6);
        Check.due("value(0) in the instant worked", x.value(0), 5);
        Check.due("next(0)", x.next(0), 6);
        x.step(1);
        Check.due("value(0) an instant later", x.value(0), 6);
        x.step(30);
        Check.due("value(0) after many", x.value(0), 6);
        Check.due("instants()", x.instants(), 32);
    }
}
