/** The document's Terms: flows, kinds of definitions, first instants, needs and packed operands. */
public final class TermsTest {
    public static void main(String[] args) {
        eighteenFlows();
        sameInstantWhateverTheOrder();
        arithmeticWraps();
        inputNumber();
        constant();
        sumDifferenceProduct();
        less();
        mux();
        pre();
        preOfItselfAndOfEachOther();
        hold();
        holdInItsFirstInstant();
        firstInstantAfterItWasGiven();
        givenAgainUnchanged();
        firstInstantAfterAReset();
        underWhateverDefinition();
        needsWhatItNames();
        preNeedsNone();
        mayNotNeedItselfDirectly();
        mayNotNeedItselfOverOthers();
        packedOperands();
        onlyNamedOperandsAreLookedAt();
        Check.end();
    }

    private static void eighteenFlows() {
        Check.says("There are eighteen FLOWS (0 to 17)");
        Metronome x = new Metronome();
        for (int flow = 0; flow < Check.FLOWS; flow++) {
            Check.due("define(" + flow + ")", x.define(flow, Check.CONST, 0, 500 + flow), 0);
        }
        x.step(1);
        for (int flow = 0; flow < Check.FLOWS; flow++) {
            Check.due("value(" + flow + ")", x.value(flow), 500 + flow);
        }
        Check.due("define(-1)", x.define(-1, Check.CONST, 0, 1), Metronome.BAD_FLOW);
        Check.due("define(18)", x.define(18, Check.CONST, 0, 1), Metronome.BAD_FLOW);
    }

    private static void sameInstantWhateverTheOrder() {
        Check.says("from other flows at the same instant");
        Metronome up = new Metronome();
        Metronome down = new Metronome();
        up.define(0, Check.INPUT, 0, 0);
        down.define(17, Check.INPUT, 0, 0);
        for (int i = 1; i < Check.FLOWS; i++) {
            up.define(i, Check.ADD, Check.ab(i - 1, i - 1), 0);
            down.define(17 - i, Check.ADD, Check.ab(18 - i, 18 - i), 0);
        }
        for (int value = 1; value < 4; value++) {
            up.input(0, value);
            down.input(0, value);
            up.step(1);
            down.step(1);
            for (int i = 0; i < Check.FLOWS; i++) {
                Check.due("flow " + i + " of the chain up", up.value(i), value << i);
                Check.due("flow " + (17 - i) + " of the chain down", down.value(17 - i), value << i);
            }
        }
    }

    /** The value of flow 2 after an instant, if flow 5 has the value left and flow 6 the value right. */
    private static int worked(int kind, int ops, int left, int right) {
        Metronome x = new Metronome();
        x.define(5, Check.INPUT, 0, 0);
        x.define(6, Check.INPUT, 0, 1);
        x.define(2, kind, ops, 0);
        x.input(0, left);
        x.input(1, right);
        x.step(1);
        return x.value(2);
    }

    private static void arithmeticWraps() {
        Check.says("(an int; arithmetic wraps)");
        int ops = Check.ab(5, 6);
        Check.due("most + 1", worked(Check.ADD, ops, Check.MOST, 1), Check.LEAST);
        Check.due("least + -1", worked(Check.ADD, ops, Check.LEAST, -1), Check.MOST);
        Check.due("most + most", worked(Check.ADD, ops, Check.MOST, Check.MOST), -2);
        Check.due("least + least", worked(Check.ADD, ops, Check.LEAST, Check.LEAST), 0);
        Check.due("least - 1", worked(Check.SUB, ops, Check.LEAST, 1), Check.MOST);
        Check.due("most - -1", worked(Check.SUB, ops, Check.MOST, -1), Check.LEAST);
        Check.due("0 - least", worked(Check.SUB, ops, 0, Check.LEAST), Check.LEAST);
        Check.due("65537 * 65537", worked(Check.MUL, ops, 65537, 65537), 131073);
        Check.due("65536 * 65536", worked(Check.MUL, ops, 65536, 65536), 0);
        Check.due("65536 * 32768", worked(Check.MUL, ops, 65536, 32768), Check.LEAST);
        Check.due("most * most", worked(Check.MUL, ops, Check.MOST, Check.MOST), 1);
        Check.due("least * -1", worked(Check.MUL, ops, Check.LEAST, -1), Check.LEAST);
    }

    private static void inputNumber() {
        Check.says("INPUT c: the input number c & 3");
        int[] numbers = {0, 1, 2, 3, 4, 7, 8, -1, -2, -3, -4, -5, 1 << 20, Check.LEAST, Check.LEAST + 1, Check.MOST};
        int[] inputs = {0, 1, 2, 3, 0, 3, 0, 3, 2, 1, 0, 3, 0, 0, 1, 3};
        Metronome x = new Metronome();
        for (int k = 0; k < 4; k++) {
            x.input(k, 10 + k);
        }
        for (int i = 0; i < numbers.length; i++) {
            Check.due("INPUT " + numbers[i], x.define(i, Check.INPUT, 0, numbers[i]), 0);
        }
        x.step(1);
        for (int i = 0; i < numbers.length; i++) {
            Check.due("value of INPUT " + numbers[i], x.value(i), 10 + inputs[i]);
        }
    }

    private static void constant() {
        Check.says("CONST c: c");
        int[] numbers = {0, 1, -1, 18, Check.LEAST, Check.MOST};
        Metronome x = new Metronome();
        for (int number : numbers) {
            x.define(3, Check.CONST, 0, number);
            x.step(2);
            Check.due("value of CONST " + number, x.value(3), number);
        }
    }

    private static void sumDifferenceProduct() {
        Check.says("ADD a b: the sum; SUB a b: a's value less b's; MUL a b: the product");
        int ops = Check.ab(5, 6);
        Check.due("7 + -3", worked(Check.ADD, ops, 7, -3), 4);
        Check.due("7 - -3", worked(Check.SUB, ops, 7, -3), 10);
        Check.due("-3 - 7", worked(Check.SUB, ops, -3, 7), -10);
        Check.due("7 * -3", worked(Check.MUL, ops, 7, -3), -21);
        Check.due("7 * 0", worked(Check.MUL, ops, 7, 0), 0);
        Check.due("a + a", worked(Check.ADD, Check.ab(5, 5), 7, -3), 14);
        Check.due("a - a", worked(Check.SUB, Check.ab(5, 5), 7, -3), 0);
        Check.due("b * b", worked(Check.MUL, Check.ab(6, 6), 7, -3), 9);
    }

    private static void less() {
        Check.says("LESS a b: 1 if a's value is less than b's, else 0");
        int ops = Check.ab(5, 6);
        Check.due("2 < 3", worked(Check.LESS, ops, 2, 3), 1);
        Check.due("3 < 3", worked(Check.LESS, ops, 3, 3), 0);
        Check.due("3 < 2", worked(Check.LESS, ops, 3, 2), 0);
        Check.due("-1 < 0", worked(Check.LESS, ops, -1, 0), 1);
        Check.due("0 < -1", worked(Check.LESS, ops, 0, -1), 0);
        // A comparison by the sign of the difference would wrap here.
        Check.due("least < most", worked(Check.LESS, ops, Check.LEAST, Check.MOST), 1);
        Check.due("most < least", worked(Check.LESS, ops, Check.MOST, Check.LEAST), 0);
        Check.due("least < 1", worked(Check.LESS, ops, Check.LEAST, 1), 1);
        Check.due("least < least", worked(Check.LESS, ops, Check.LEAST, Check.LEAST), 0);
        Check.due("a < a", worked(Check.LESS, Check.ab(5, 5), 3, 4), 0);
    }

    private static void mux() {
        Check.says("MUX s a b: the value of a if that of s is not 0, else that of b");
        int[] choices = {1, 0, -1, 2, 256, 0, Check.LEAST, Check.MOST};
        Metronome x = new Metronome();
        x.define(1, Check.CONST, 0, 10);
        x.define(2, Check.CONST, 0, 20);
        x.define(3, Check.INPUT, 0, 0);
        x.define(0, Check.MUX, Check.sab(3, 1, 2), 99);
        x.define(4, Check.MUX, Check.sab(3, 3, 2), 99);
        for (int choice : choices) {
            x.input(0, choice);
            x.step(1);
            Check.due("MUX by " + choice, x.value(0), choice != 0 ? 10 : 20);
            Check.due("MUX of what chooses, by " + choice, x.value(4), choice != 0 ? choice : 20);
        }
    }

    private static void pre() {
        Check.says("PRE a c: the value that a had in the instant before; c in the definition's first instant");
        Metronome x = new Metronome();
        x.define(0, Check.INPUT, 0, 0);
        x.define(1, Check.PRE, Check.a(0), -4);
        x.define(2, Check.PRE, Check.a(1), Check.LEAST);
        int[] values = {10, 11, 0, 12, Check.MOST, 13};
        int[] before = {-4, 10, 11, 0, 12, Check.MOST};
        int[] twoBefore = {Check.LEAST, -4, 10, 11, 0, 12};
        for (int i = 0; i < values.length; i++) {
            x.input(0, values[i]);
            x.step(1);
            Check.due("PRE in instant " + i, x.value(1), before[i]);
            Check.due("PRE of PRE in instant " + i, x.value(2), twoBefore[i]);
        }
    }

    private static void preOfItselfAndOfEachOther() {
        Check.says("PRE a c: the value that a had in the instant before");
        Metronome x = new Metronome();
        x.define(0, Check.PRE, Check.a(0), 9);
        x.define(1, Check.PRE, Check.a(2), 1);
        x.define(2, Check.PRE, Check.a(1), 2);
        for (int i = 1; i < 6; i++) {
            x.step(1);
            Check.due("PRE of itself", x.value(0), 9);
            Check.due("one of two that swap", x.value(1), i % 2 == 1 ? 1 : 2);
            Check.due("the other of two that swap", x.value(2), i % 2 == 1 ? 2 : 1);
        }
    }

    private static void hold() {
        Check.says("HOLD a s c: the value of a if that of s is not 0; else the value that this flow had in the"
                + " instant before, or c in the definition's first instant");
        Metronome x = new Metronome();
        x.define(0, Check.INPUT, 0, 0);
        x.define(1, Check.INPUT, 0, 1);
        x.define(2, Check.HOLD, Check.as(0, 1), 77);
        int[] values = {5, 6, 7, 8, 9, 10, 0, 11, 12};
        int[] choices = {0, 0, -1, 0, 0, 1, Check.LEAST, 0, 256};
        int[] held = {77, 77, 7, 7, 7, 10, 0, 0, 12};
        for (int i = 0; i < values.length; i++) {
            x.input(0, values[i]);
            x.input(1, choices[i]);
            x.step(1);
            Check.due("HOLD in instant " + i, x.value(2), held[i]);
        }
    }

    // The c stands under the else: where s is not 0 the value is that of a, also in the first instant.
    private static void holdInItsFirstInstant() {
        Check.says("HOLD a s c: the value of a if that of s is not 0; else the value that this flow had in the"
                + " instant before, or c in the definition's first instant");
        int[] choices = {1, 0, -1, 0, 256, Check.LEAST, Check.MOST};
        Metronome x = new Metronome();
        x.define(0, Check.INPUT, 0, 0);
        x.define(1, Check.INPUT, 0, 1);
        for (int choice : choices) {
            x.input(0, 12);
            x.input(1, choice);
            x.define(2, Check.HOLD, Check.as(0, 1), 78);
            holdsFrom("HOLD given with s " + choice, x, choice != 0 ? 12 : 78);
            x.input(0, 12);
            x.input(1, choice);
            x.reset();
            holdsFrom("HOLD after a reset with s " + choice, x, choice != 0 ? 12 : 78);
        }
    }

    /** That flow 2, a HOLD with its first instant ahead, has the value there and holds it when s is 0. */
    private static void holdsFrom(String when, Metronome x, int value) {
        Check.due(when + ", next", x.next(2), value);
        x.step(1);
        Check.due(when + ", first instant", x.value(2), value);
        x.input(0, 13);
        x.input(1, 0);
        x.step(1);
        Check.due(when + ", second instant, s 0", x.value(2), value);
        x.input(1, 1);
        x.step(1);
        Check.due(when + ", third instant, s 1", x.value(2), 13);
    }

    private static void firstInstantAfterItWasGiven() {
        Check.says("A definition's FIRST INSTANT is the first one worked after it was given");
        Metronome x = new Metronome();
        x.define(0, Check.CONST, 0, 3);
        x.step(4);
        x.define(1, Check.PRE, Check.a(0), 8);
        x.define(2, Check.HOLD, Check.as(0, 5), 9);
        // None of these works an instant, so the first instant is still ahead.
        x.step(0);
        x.step(-5);
        x.next(1);
        x.value(1);
        x.input(0, 1);
        Check.due("value of PRE before its first instant", x.value(1), 0);
        Check.due("next of PRE", x.next(1), 8);
        Check.due("next of HOLD", x.next(2), 9);
        x.step(1);
        Check.due("PRE in its first instant", x.value(1), 8);
        Check.due("HOLD in its first instant", x.value(2), 9);
        x.step(1);
        Check.due("PRE in its second instant", x.value(1), 3);
        Check.due("HOLD in its second instant", x.value(2), 9);
        x.define(1, Check.PRE, Check.a(0), 80);
        x.step(2);
        Check.due("PRE in its second instant, both by one call", x.value(1), 3);
    }

    private static void givenAgainUnchanged() {
        Check.says("(also if it is given again unchanged)");
        Metronome x = new Metronome();
        x.define(0, Check.CONST, 0, 5);
        x.define(1, Check.PRE, Check.a(0), 50);
        x.define(2, Check.HOLD, Check.as(0, 4), 60);
        x.define(3, Check.PRE, Check.a(0), 51);
        x.define(4, Check.INPUT, 0, 0);
        x.input(0, 1);
        x.step(3);
        x.input(0, 0);
        Check.due("PRE once more", x.next(1), 5);
        Check.due("HOLD once more", x.next(2), 5);
        x.define(1, Check.PRE, Check.a(0), 50);
        x.define(2, Check.HOLD, Check.as(0, 4), 60);
        Check.due("value of PRE given again, no instant since", x.value(1), 5);
        x.step(1);
        Check.due("PRE given again", x.value(1), 50);
        Check.due("HOLD given again", x.value(2), 60);
        Check.due("PRE not given again", x.value(3), 5);
        x.step(1);
        Check.due("PRE an instant later", x.value(1), 5);
        Check.due("HOLD an instant later", x.value(2), 60);
        x.define(0, Check.CONST, 0, 5);
        x.step(1);
        Check.due("PRE of a flow given again", x.value(1), 5);
    }

    private static void firstInstantAfterAReset() {
        Check.says("or after a reset");
        Metronome x = new Metronome();
        x.define(0, Check.CONST, 0, 5);
        x.define(1, Check.PRE, Check.a(0), 50);
        x.define(2, Check.HOLD, Check.as(0, 4), 60);
        x.define(4, Check.INPUT, 0, 0);
        for (int round = 0; round < 3; round++) {
            x.input(0, 1);
            x.step(1);
            Check.due("PRE in the first instant", x.value(1), 50);
            x.step(1);
            Check.due("PRE in the second instant", x.value(1), 5);
            Check.due("HOLD in the second instant", x.value(2), 5);
            x.input(0, 0);
            x.reset();
            x.step(1);
            Check.due("PRE in the first instant after a reset", x.value(1), 50);
            Check.due("HOLD in the first instant after a reset", x.value(2), 60);
            x.reset();
        }
    }

    private static void underWhateverDefinition() {
        Check.says("What a flow had in the instant before is what it had then, under whatever definition.");
        Metronome x = new Metronome();
        x.define(0, Check.CONST, 0, 11);
        x.define(1, Check.PRE, Check.a(0), 1);
        x.step(1);
        x.define(0, Check.HOLD, Check.as(3, 3), 22);
        x.step(1);
        Check.due("PRE of a flow that was CONST and is HOLD", x.value(1), 11);
        Check.due("HOLD in its first instant, its flow was CONST", x.value(0), 22);
        x.define(0, Check.CONST, 0, 33);
        x.define(0, Check.PRE, Check.a(0), 44);
        x.step(1);
        Check.due("PRE, the definition between never worked", x.value(1), 22);
        Check.due("PRE of itself in its first instant", x.value(0), 44);
        x.define(0, Check.INPUT, 0, 0);
        Check.due("next of PRE, its operand now INPUT", x.next(1), 44);
        x.step(1);
        Check.due("PRE, its operand now INPUT", x.value(1), 44);
        x.step(1);
        Check.due("PRE an instant later", x.value(1), 0);
        // The new PRE asks what a flow had before the new PRE's first instant only from its second one on.
        x.define(0, Check.CONST, 0, 55);
        x.define(1, Check.PRE, Check.a(0), 2);
        x.step(1);
        x.define(0, Check.CONST, 0, 66);
        x.step(1);
        Check.due("PRE in its second instant, its operand given anew", x.value(1), 55);
    }

    private static void needsWhatItNames() {
        Check.says("A flow NEEDS the flows that its definition names");
        for (int kind = 0; kind <= 8; kind++) {
            Metronome x = new Metronome();
            x.define(0, kind, Check.sab(15, 16, 17), 14);
            boolean pre = kind == Check.PRE;
            Check.due("kind " + kind + " needs a", x.needs(0, 16), !pre && Check.namesA(kind));
            Check.due("kind " + kind + " needs b", x.needs(0, 17), Check.namesB(kind));
            Check.due("kind " + kind + " needs s", x.needs(0, 15), Check.namesS(kind));
            Check.due("kind " + kind + " needs flow 14", x.needs(0, 14), false);
        }
    }

    private static void preNeedsNone() {
        Check.says("but PRE needs none");
        Metronome x = new Metronome();
        Check.due("PRE of itself", x.define(0, Check.PRE, Check.a(0), 3), 0);
        Check.due("needs(0, 0)", x.needs(0, 0), false);
        Check.due("PRE of what will need it", x.define(1, Check.PRE, Check.a(2), 0), 0);
        Check.due("ADD of that PRE", x.define(2, Check.ADD, Check.ab(1, 0), 0), 2);
        Check.due("needs(1, 2)", x.needs(1, 2), false);
        Check.due("needs(2, 2)", x.needs(2, 2), false);
        Check.due("PRE of what needs it, given anew", x.define(1, Check.PRE, Check.a(2), 1), 0);
        Check.due("ADD in place of that PRE", x.define(1, Check.ADD, Check.ab(2, 0), 0), Metronome.CIRCLE);
    }

    private static void mayNotNeedItselfDirectly() {
        Check.says("no flow may need itself, directly");
        for (int kind = Check.INPUT; kind <= Check.HOLD; kind++) {
            for (int flow = 0; flow < Check.FLOWS; flow += 17) {
                Metronome x = new Metronome();
                boolean a = x.define(flow, kind, Check.sab(1, flow, 1), 0) == Metronome.CIRCLE;
                boolean b = x.define(flow, kind, Check.sab(1, 1, flow), 0) == Metronome.CIRCLE;
                boolean s = x.define(flow, kind, Check.sab(flow, 1, 1), 0) == Metronome.CIRCLE;
                String call = "flow " + flow + ", kind " + kind + " of itself as ";
                Check.due(call + "a is a circle", a, kind != Check.PRE && Check.namesA(kind));
                Check.due(call + "b is a circle", b, Check.namesB(kind));
                Check.due(call + "s is a circle", s, Check.namesS(kind));
            }
        }
    }

    private static void mayNotNeedItselfOverOthers() {
        Check.says("no flow may need itself, over others");
        Metronome x = new Metronome();
        x.define(0, Check.ADD, Check.ab(1, 1), 0);
        Check.due("over one other", x.define(1, Check.LESS, Check.ab(5, 0), 0), Metronome.CIRCLE);
        x.define(1, Check.HOLD, Check.as(5, 2), 0);
        Check.due("over two others", x.define(2, Check.MUX, Check.sab(5, 6, 0), 0), Metronome.CIRCLE);
        x.define(0, Check.ADD, Check.ab(3, 3), 0);
        Check.due("when the way is broken", x.define(2, Check.MUX, Check.sab(5, 6, 0), 0), 4);
        overAllOthers(true);
        overAllOthers(false);
    }

    // Both ways round, as a search that goes through the flows in one order may be cut short in the other.
    private static void overAllOthers(boolean up) {
        Metronome x = new Metronome();
        for (int i = 1; i < Check.FLOWS; i++) {
            int flow = up ? i : 17 - i;
            int before = up ? i - 1 : 18 - i;
            Check.due("flow " + flow + " of a chain", x.define(flow, Check.ADD, Check.ab(before, before), 0), i);
        }
        int foot = up ? 0 : 17;
        int head = up ? 17 : 0;
        Check.due("circle over all", x.define(foot, Check.HOLD, Check.as(head, head), 0), Metronome.CIRCLE);
        Check.due("PRE over all", x.define(foot, Check.PRE, Check.a(head), 0), 0);
        Check.due("needs(head, foot)", x.needs(head, foot), true);
    }

    private static void packedOperands() {
        Check.says("a = ops & 31, b = (ops >> 5) & 31, s = (ops >> 10) & 31");
        int[] above = {0, 1 << 15, 1 << 16, 1 << 30, 1 << 31, -1 << 15};
        for (int bits : above) {
            Metronome x = new Metronome();
            for (int flow = 1; flow < Check.FLOWS; flow++) {
                x.define(flow, Check.CONST, 0, flow);
            }
            x.define(0, Check.MUX, 17 | 16 << 5 | 15 << 10 | bits, 0);
            String call = "MUX 15 17 16 with the bits " + bits + " above";
            Check.due(call + ", s not 0", x.next(0), 17);
            Check.due(call + ", needs a", x.needs(0, 17), true);
            Check.due(call + ", needs b", x.needs(0, 16), true);
            Check.due(call + ", needs s", x.needs(0, 15), true);
            x.define(15, Check.CONST, 0, 0);
            Check.due(call + ", s 0", x.next(0), 16);
            x.define(0, Check.SUB, 3 | 9 << 5 | bits, 0);
            Check.due("SUB 3 9 with the bits " + bits + " above", x.next(0), -6);
            x.define(0, Check.HOLD, 3 | 9 << 10 | bits, 0);
            Check.due("HOLD 3 9 with the bits " + bits + " above", x.next(0), 3);
        }
    }

    private static void onlyNamedOperandsAreLookedAt() {
        Check.says("Only those that the kind names are looked at.");
        Metronome x = new Metronome();
        x.input(1, 8);
        Check.due("CONST 6 of no flows", x.define(1, Check.CONST, -1, 6), 0);
        Check.due("INPUT 1 of no flows", x.define(2, Check.INPUT, -1, 1), 0);
        Check.due("ADD 1 1, s no flow", x.define(3, Check.ADD, Check.sab(31, 1, 1), 9), 1);
        Check.due("PRE 1, b and s no flows", x.define(4, Check.PRE, Check.sab(31, 1, 31), 9), 0);
        Check.due("HOLD 1 1, b no flow", x.define(5, Check.HOLD, Check.sab(1, 1, 31), 9), 1);
        x.step(2);
        Check.due("CONST 6", x.value(1), 6);
        Check.due("INPUT 1", x.value(2), 8);
        Check.due("ADD 1 1", x.value(3), 12);
        Check.due("PRE 1", x.value(4), 6);
        Check.due("HOLD 1 1", x.value(5), 6);
        Check.due("ADD 1 1 with itself as s", x.define(6, Check.ADD, Check.sab(6, 1, 1), 0), 1);
        Check.due("HOLD 1 1 with itself as b", x.define(7, Check.HOLD, Check.sab(1, 1, 7), 0), 1);
        Check.due("CONST with itself as all", x.define(8, Check.CONST, Check.sab(8, 8, 8), 0), 0);
        Check.due("INPUT with itself as all", x.define(8, Check.INPUT, Check.sab(8, 8, 8), 0), 0);
    }
}
