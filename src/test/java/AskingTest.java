/** Promises 6 to 10: the calls that change nothing. */
public final class AskingTest {
    public static void main(String[] args) {
        value();
        kind();
        needs();
        instants();
        next();
        askingChangesNothing();
        Check.end();
    }

    private static void value() {
        Metronome x = new Metronome();
        for (int flow = 0; flow < Check.FLOWS; flow++) {
            x.define(flow, Check.CONST, 0, 100 + flow);
            Check.due("value(" + flow + ") with no instant", x.value(flow), 0);
        }
        x.step(1);
        for (int flow = 0; flow < Check.FLOWS; flow++) {
            Check.due("value(" + flow + ")", x.value(flow), 100 + flow);
        }
        for (int flow : Check.NO_FLOWS) {
            Check.due("value(" + flow + ")", x.value(flow), 0);
        }
    }

    private static void kind() {
        Metronome x = new Metronome();
        for (int kind = 0; kind <= 8; kind++) {
            x.define(kind, kind, Check.sab(17, 17, 17), 0);
        }
        for (int flow = 0; flow < Check.FLOWS; flow++) {
            Check.due("kind(" + flow + ")", x.kind(flow), flow <= 8 ? flow : Check.CONST);
        }
        for (int flow : Check.NO_FLOWS) {
            Check.due("kind(" + flow + ")", x.kind(flow), Metronome.BAD_FLOW);
        }
    }

    private static void needs() {
        Metronome x = new Metronome();
        x.define(17, Check.MUX, Check.sab(3, 2, 16), 0);
        x.define(2, Check.HOLD, Check.as(4, 0), 0);
        x.define(4, Check.PRE, Check.a(5), 0);
        x.define(16, Check.LESS, Check.ab(6, 7), 0);
        boolean[] due = new boolean[Check.FLOWS];
        int[] needed = {3, 2, 16, 4, 0, 6, 7};
        for (int flow : needed) {
            due[flow] = true;
        }
        for (int flow = 0; flow < Check.FLOWS; flow++) {
            Check.due("needs(17, " + flow + ")", x.needs(17, flow), due[flow]);
            Check.due("needs(4, " + flow + ")", x.needs(4, flow), false);
            Check.due("needs(" + flow + ", 17)", x.needs(flow, 17), false);
            Check.due("needs(" + flow + ", itself)", x.needs(flow, flow), false);
        }
        for (int flow : Check.NO_FLOWS) {
            Check.due("needs(17, " + flow + ")", x.needs(17, flow), false);
            Check.due("needs(" + flow + ", 3)", x.needs(flow, 3), false);
            Check.due("needs(" + flow + ", itself)", x.needs(flow, flow), false);
        }
        // A shift by 32 more than a flow's number is a shift by the number, so this one is told apart.
        Check.due("needs(17, 3 + 32)", x.needs(17, 3 + 32), false);
        x.define(2, Check.CONST, 0, 0);
        Check.due("needs(17, 0) when 2 needs none", x.needs(17, 0), false);
        Check.due("needs(17, 2) when 2 needs none", x.needs(17, 2), true);
    }

    private static void instants() {
        Metronome x = new Metronome();
        Check.due("instants()", x.instants(), 0);
        x.step(5);
        Check.due("instants() after 5", x.instants(), 5);
        x.step(1000);
        Check.due("instants() after 100 more", x.instants(), 105);
        x.step(-1);
        Check.due("instants() after none", x.instants(), 105);
        x.reset();
        Check.due("instants() after reset", x.instants(), 0);
        x.step(2);
        Check.due("instants() after 2", x.instants(), 2);
    }

    private static void next() {
        Metronome x = new Metronome();
        x.define(0, Check.INPUT, 0, 0);
        x.define(1, Check.PRE, Check.a(0), 40);
        x.define(17, Check.ADD, Check.ab(0, 1), 0);
        x.input(0, 3);
        Check.due("next(17) with no instant", x.next(17), 43);
        x.step(1);
        Check.due("next(17)", x.next(17), 6);
        x.input(0, 8);
        Check.due("next(17) with another input", x.next(17), 11);
        Check.due("next(1)", x.next(1), 3);
        x.define(1, Check.PRE, Check.a(0), 41);
        Check.due("next(17) with another definition", x.next(17), 49);
        for (int flow : Check.NO_FLOWS) {
            Check.due("next(" + flow + ")", x.next(flow), 0);
        }
    }

    private static void askingChangesNothing() {
        Metronome x = new Metronome();
        x.define(0, Check.PRE, Check.a(1), 0);
        x.define(2, Check.CONST, 0, 1);
        x.define(1, Check.ADD, Check.ab(0, 2), 0);
        x.define(3, Check.HOLD, Check.as(1, 4), 70);
        for (int i = 0; i < 10; i++) {
            for (int again = 0; again < 3; again++) {
                Check.due("value(1)", x.value(1), i);
                Check.due("next(1)", x.next(1), i + 1);
                Check.due("next(3)", x.next(3), 70);
                Check.due("value(3)", x.value(3), i == 0 ? 0 : 70);
                Check.due("kind(1)", x.kind(1), Check.ADD);
                Check.due("needs(1, 2)", x.needs(1, 2), true);
                Check.due("instants()", x.instants(), i);
            }
            Check.due("step(1)", x.step(1), i + 1);
        }
    }
}
