/** Promise 4: step, with every kind of definition and the first instants. */
public final class StepTest {
    public static void main(String[] args) {
        bounds();
        arithmetic();
        arithmeticWraps();
        less();
        mux();
        pre();
        preOfOthersAndItself();
        hold();
        givenAgainStartsAnew();
        beforeIsUnderWhateverDefinition();
        firstInstantWaitsForAnInstant();
        orderOfFlowsDoesNotMatter();
        manyInstants();
        Check.end();
    }

    private static void bounds() {
        Metronome x = new Metronome();
        x.define(0, Check.PRE, Check.a(1), 0);
        x.define(2, Check.CONST, 0, 1);
        x.define(1, Check.ADD, Check.ab(0, 2), 0);
        int[] counts = {0, -1, Integer.MIN_VALUE, 1, 99, 100, 101, Integer.MAX_VALUE};
        int[] worked = {0, 0, 0, 1, 100, 200, 300, 400};
        for (int i = 0; i < counts.length; i++) {
            Check.due("step(" + counts[i] + ")", x.step(counts[i]), worked[i]);
            Check.due("the counter after it", x.value(1), worked[i]);
        }
    }

    private static int worked(int kind, int ops, int left, int right) {
        Metronome x = new Metronome();
        x.define(5, Check.INPUT, 0, 0);
        x.define(6, Check.INPUT, 0, 1);
        x.define(2, kind, ops, 0);
        x.input(0, left);
        x.input(1, right);
        x.step(1);
        return x.value(2);
    }

    private static void arithmetic() {
        int ops = Check.ab(5, 6);
        Check.due("7 + -3", worked(Check.ADD, ops, 7, -3), 4);
        Check.due("7 - -3", worked(Check.SUB, ops, 7, -3), 10);
        Check.due("-3 - 7", worked(Check.SUB, ops, -3, 7), -10);
        Check.due("7 * -3", worked(Check.MUL, ops, 7, -3), -21);
        Check.due("a - a", worked(Check.SUB, Check.ab(5, 5), 7, -3), 0);
    }

    private static void arithmeticWraps() {
        int ops = Check.ab(5, 6);
        int most = Integer.MAX_VALUE;
        int least = Integer.MIN_VALUE;
        Check.due("most + 1", worked(Check.ADD, ops, most, 1), least);
        Check.due("least - 1", worked(Check.SUB, ops, least, 1), most);
        Check.due("0 - least", worked(Check.SUB, ops, 0, least), least);
        Check.due("65537 * 65537", worked(Check.MUL, ops, 65537, 65537), 131073);
        Check.due("least * -1", worked(Check.MUL, ops, least, -1), least);
    }

    private static void less() {
        int ops = Check.ab(5, 6);
        Check.due("2 < 3", worked(Check.LESS, ops, 2, 3), 1);
        Check.due("3 < 3", worked(Check.LESS, ops, 3, 3), 0);
        Check.due("3 < 2", worked(Check.LESS, ops, 3, 2), 0);
        Check.due("-1 < 0", worked(Check.LESS, ops, -1, 0), 1);
        Check.due("least < most", worked(Check.LESS, ops, Integer.MIN_VALUE, Integer.MAX_VALUE), 1);
        Check.due("most < least", worked(Check.LESS, ops, Integer.MAX_VALUE, Integer.MIN_VALUE), 0);
    }

    private static void mux() {
        int[] choices = {1, 0, -1, 2, Integer.MIN_VALUE};
        Metronome x = new Metronome();
        x.define(1, Check.CONST, 0, 10);
        x.define(2, Check.CONST, 0, 20);
        x.define(3, Check.INPUT, 0, 0);
        x.define(0, Check.MUX, Check.sab(3, 1, 2), 99);
        for (int choice : choices) {
            x.input(0, choice);
            x.step(1);
            Check.due("MUX by " + choice, x.value(0), choice != 0 ? 10 : 20);
        }
    }

    private static void pre() {
        Metronome x = new Metronome();
        x.define(0, Check.INPUT, 0, 0);
        x.define(1, Check.PRE, Check.a(0), -4);
        int before = -4;
        for (int value = 10; value < 15; value++) {
            x.input(0, value);
            x.step(1);
            Check.due("PRE with " + value, x.value(1), before);
            before = value;
        }
    }

    private static void preOfOthersAndItself() {
        Metronome x = new Metronome();
        x.define(0, Check.PRE, Check.a(0), 9);
        x.define(1, Check.PRE, Check.a(2), 1);
        x.define(2, Check.PRE, Check.a(1), 2);
        for (int i = 1; i < 6; i++) {
            x.step(1);
            Check.due("PRE of itself", x.value(0), 9);
            Check.due("one of two that swap", x.value(1), i % 2 == 1 ? 1 : 2);
            Check.due("the other of two that swap", x.value(2), i % 2 == 1 ? 2 : 1);
        }
    }

    private static void hold() {
        Metronome x = new Metronome();
        x.define(0, Check.INPUT, 0, 0);
        x.define(1, Check.INPUT, 0, 1);
        x.define(2, Check.HOLD, Check.as(0, 1), 77);
        int[] values = {5, 6, 7, 8, 9, 10};
        int[] choices = {0, 0, -1, 0, 0, 1};
        int[] held = {77, 77, 7, 7, 7, 10};
        for (int i = 0; i < values.length; i++) {
            x.input(0, values[i]);
            x.input(1, choices[i]);
            x.step(1);
            Check.due("HOLD in instant " + i, x.value(2), held[i]);
        }
        x.define(2, Check.HOLD, Check.as(0, 1), 78);
        x.step(1);
        Check.due("HOLD in its first instant, chosen", x.value(2), 10);
    }

    private static void givenAgainStartsAnew() {
        Metronome x = new Metronome();
        x.define(0, Check.CONST, 0, 5);
        x.define(1, Check.PRE, Check.a(0), 50);
        x.define(2, Check.HOLD, Check.as(0, 0), 60);
        x.define(3, Check.PRE, Check.a(0), 51);
        x.step(3);
        x.define(4, Check.CONST, 0, 0);
        x.define(1, Check.PRE, Check.a(0), 50);
        x.define(2, Check.HOLD, Check.as(0, 4), 60);
        x.step(1);
        Check.due("PRE given again unchanged", x.value(1), 50);
        Check.due("HOLD given again", x.value(2), 60);
        Check.due("PRE not given again", x.value(3), 5);
        x.step(1);
        Check.due("PRE an instant later", x.value(1), 5);
        Check.due("HOLD an instant later", x.value(2), 60);
        x.define(0, Check.CONST, 0, 6);
        x.step(1);
        Check.due("PRE of a flow given anew", x.value(1), 5);
        x.step(1);
        Check.due("PRE of a flow given anew, later", x.value(1), 6);
    }

    private static void beforeIsUnderWhateverDefinition() {
        Metronome x = new Metronome();
        x.define(0, Check.CONST, 0, 11);
        x.define(1, Check.PRE, Check.a(0), 1);
        x.step(1);
        x.define(0, Check.HOLD, Check.as(3, 3), 22);
        x.step(1);
        Check.due("PRE over a change of definition", x.value(1), 11);
        Check.due("HOLD does not take over the old flow's value", x.value(0), 22);
        x.define(0, Check.CONST, 0, 33);
        x.define(0, Check.PRE, Check.a(0), 44);
        x.step(1);
        Check.due("PRE when the definition between was never worked", x.value(1), 22);
        Check.due("PRE of itself in its first instant", x.value(0), 44);
    }

    private static void firstInstantWaitsForAnInstant() {
        Metronome x = new Metronome();
        x.define(0, Check.CONST, 0, 3);
        x.step(1);
        x.define(1, Check.PRE, Check.a(0), 8);
        x.step(0);
        x.step(-5);
        x.next(1);
        x.value(1);
        Check.due("value(1) before its first instant", x.value(1), 0);
        x.step(1);
        Check.due("value(1) in its first instant", x.value(1), 8);
        x.define(1, Check.PRE, Check.a(0), 8);
        x.step(2);
        Check.due("value(1) in its second instant", x.value(1), 3);
    }

    private static void orderOfFlowsDoesNotMatter() {
        Metronome up = new Metronome();
        Metronome down = new Metronome();
        up.define(0, Check.INPUT, 0, 0);
        down.define(17, Check.INPUT, 0, 0);
        for (int i = 1; i < Check.FLOWS; i++) {
            up.define(i, Check.ADD, Check.ab(i - 1, i - 1), 0);
            down.define(17 - i, Check.ADD, Check.ab(18 - i, 18 - i), 0);
        }
        for (int value = 1; value < 4; value++) {
            up.input(0, value);
            down.input(0, value);
            up.step(1);
            down.step(1);
            for (int i = 0; i < Check.FLOWS; i++) {
                Check.due("flow " + i + " of the chain up", up.value(i), value << i);
                Check.due("flow " + (17 - i) + " of the chain down", down.value(17 - i), value << i);
            }
        }
    }

    private static void manyInstants() {
        Metronome x = new Metronome();
        for (int i = 1; i <= 511; i++) {
            Check.due("step(100) no. " + i, x.step(100), 100 * i);
        }
        Check.due("instants()", x.instants(), 51100);
    }
}
