/** A synchronous dataflow machine: eighteen flows, each with one value in every instant. */
public final class Metronome {
    public static final int BAD_FLOW = -1;
    public static final int BAD_KIND = -2;
    public static final int CIRCLE = -3;

    private static final int FLOWS = 18;
    private static final int INPUTS = 4;
    private static final int MOST_STEPS = 100;

    private static final int KIND_INPUT = 0;
    private static final int KIND_CONST = 1;
    private static final int KIND_ADD = 2;
    private static final int KIND_SUB = 3;
    private static final int KIND_MUL = 4;
    private static final int KIND_LESS = 5;
    private static final int KIND_MUX = 6;
    private static final int KIND_PRE = 7;
    private static final int KIND_HOLD = 8;

    // An operand has five bits, so a value array of this length has a place for each,
    // also for one that the kind does not name and that define has not looked at.
    private static final int OPERANDS = 32;

    private final int[] kinds = new int[FLOWS];
    private final int[] packed = new int[FLOWS];
    private final int[] numbers = new int[FLOWS];

    // A set of flows is one int, bit f standing for flow f. This one is what each flow needs directly.
    private final int[] needed = new int[FLOWS];

    // Whether the first instant of a flow's definition has been worked.
    private final boolean[] begun = new boolean[FLOWS];

    private final int[] inputs = new int[INPUTS];

    // The values in the last instant worked.
    private final int[] last = new int[OPERANDS];

    // The values in the instant being worked out. What stands here between calls means nothing,
    // and so next may write it.
    private final int[] now = new int[OPERANDS];

    private int worked;

    public Metronome() {
        for (int flow = 0; flow < FLOWS; flow++) {
            kinds[flow] = KIND_CONST;
        }
    }

    public int define(int flow, int kind, int ops, int c) {
        if (!isFlow(flow)) {
            return BAD_FLOW;
        }
        if (kind < KIND_INPUT || kind > KIND_HOLD) {
            return BAD_KIND;
        }
        int named = namedOperands(kind, ops);
        if ((named >>> FLOWS) != 0) {
            return BAD_FLOW;
        }
        // PRE looks at the instant before, so it may name any flow, also its own.
        int direct = kind == KIND_PRE ? 0 : named;
        // There was no circle before, so a new one goes through this flow. If there is none, this
        // flow is not reached here, and so its old needs, which still stand, are not counted.
        int all = withTheirNeeds(direct);
        if (contains(all, flow)) {
            return CIRCLE;
        }
        kinds[flow] = kind;
        packed[flow] = ops;
        numbers[flow] = c;
        needed[flow] = direct;
        begun[flow] = false;
        return sizeOf(all);
    }

    public int input(int k, int value) {
        int old = inputs[k & 3];
        inputs[k & 3] = value;
        return old;
    }

    public int step(int n) {
        int count = n > MOST_STEPS ? MOST_STEPS : n;
        for (int i = 0; i < count; i++) {
            workOutInstant();
            keepInstant();
        }
        return worked;
    }

    public void reset() {
        worked = 0;
        for (int flow = 0; flow < FLOWS; flow++) {
            last[flow] = 0;
            begun[flow] = false;
        }
    }

    public int value(int flow) {
        return isFlow(flow) ? last[flow] : 0;
    }

    public int kind(int flow) {
        return isFlow(flow) ? kinds[flow] : BAD_FLOW;
    }

    public boolean needs(int a, int b) {
        if (!isFlow(a) || !isFlow(b)) {
            return false;
        }
        int all = withTheirNeeds(needed[a]);
        return contains(all, b);
    }

    public int instants() {
        return worked;
    }

    public int next(int flow) {
        if (!isFlow(flow)) {
            return 0;
        }
        workOutInstant();
        return now[flow];
    }

    private static boolean isFlow(int flow) {
        return flow >= 0 && flow < FLOWS;
    }

    private static boolean contains(int set, int flow) {
        return ((set >>> flow) & 1) != 0;
    }

    private static int sizeOf(int set) {
        int size = 0;
        for (int flow = 0; flow < FLOWS; flow++) {
            size += (set >>> flow) & 1;
        }
        return size;
    }

    private static int operandA(int ops) {
        return ops & 31;
    }

    private static int operandB(int ops) {
        return (ops >> 5) & 31;
    }

    private static int operandS(int ops) {
        return (ops >> 10) & 31;
    }

    /** The set of the operands that the kind names, those included that are no flows. */
    private static int namedOperands(int kind, int ops) {
        int a = 1 << operandA(ops);
        int b = 1 << operandB(ops);
        int s = 1 << operandS(ops);
        switch (kind) {
            case KIND_ADD:
            case KIND_SUB:
            case KIND_MUL:
            case KIND_LESS:
                return a | b;
            case KIND_MUX:
                return a | b | s;
            case KIND_PRE:
                return a;
            case KIND_HOLD:
                return a | s;
            default:
                return 0;
        }
    }

    /** The flows of the set and all that they need, directly or over others. */
    private int withTheirNeeds(int set) {
        int all = set;
        // Each round goes at least one step further, and no way without a circle has more steps than flows.
        for (int round = 0; round < FLOWS; round++) {
            for (int flow = 0; flow < FLOWS; flow++) {
                if (contains(all, flow)) {
                    all |= needed[flow];
                }
            }
        }
        return all;
    }

    /** Fills now with the values of the instant after the last one worked. */
    private void workOutInstant() {
        int done = 0;
        // As there is no circle, each round finds at least one flow whose needs are all done.
        for (int round = 0; round < FLOWS; round++) {
            for (int flow = 0; flow < FLOWS; flow++) {
                boolean ready = (needed[flow] & ~done) == 0;
                if (ready && !contains(done, flow)) {
                    now[flow] = valueByDefinition(flow);
                    done |= 1 << flow;
                }
            }
        }
    }

    private int valueByDefinition(int flow) {
        int a = operandA(packed[flow]);
        int b = operandB(packed[flow]);
        int s = operandS(packed[flow]);
        int c = numbers[flow];
        switch (kinds[flow]) {
            case KIND_INPUT:
                return inputs[c & 3];
            case KIND_ADD:
                return now[a] + now[b];
            case KIND_SUB:
                return now[a] - now[b];
            case KIND_MUL:
                return now[a] * now[b];
            case KIND_LESS:
                return now[a] < now[b] ? 1 : 0;
            case KIND_MUX:
                return now[s] != 0 ? now[a] : now[b];
            case KIND_PRE:
                return begun[flow] ? last[a] : c;
            case KIND_HOLD:
                if (now[s] != 0) {
                    return now[a];
                }
                return begun[flow] ? last[flow] : c;
            default:
                return c;
        }
    }

    /** Makes the instant that was worked out the last one worked. */
    private void keepInstant() {
        for (int flow = 0; flow < FLOWS; flow++) {
            last[flow] = now[flow];
            begun[flow] = true;
        }
        worked++;
    }
}
