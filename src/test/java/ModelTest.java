/**
 * All promises together: long runs of calls, drawn by a fixed rule, are answered by the program and by a model
 * written another way (recursion over the definitions, whole history kept).
 */
public final class ModelTest {
    private static final int RUNS = 2000;
    private static final int CALLS = 512;

    private static long seed = 20261115L;

    private static int draw(int bound) {
        seed = seed * 6364136223846793005L + 1442695040888963407L;
        return (int) ((seed >>> 33) % bound);
    }

    /** Now and then any int at all, as no argument may make a call throw; else the number given. */
    private static int orWild(int number) {
        return draw(100) == 0 ? draw(Integer.MAX_VALUE) * 2 + draw(2) : number;
    }

    public static void main(String[] args) {
        Check.says("all promises");
        for (int run = 0; run < RUNS; run++) {
            oneRun(run, 4 + draw(15));
        }
        Check.end();
    }

    private static int drawFlow(int flows) {
        return draw(25) == 0 ? orWild(draw(40) - 10) : draw(flows);
    }

    private static int drawNumber() {
        return draw(10) == 0 ? draw(Integer.MAX_VALUE) * 2 + draw(2) : draw(9) - 3;
    }

    private static int drawOperand(int flows) {
        return draw(60) == 0 ? draw(32) : draw(flows);
    }

    private static int drawOps(int flows) {
        int high = draw(5) == 0 ? draw(1 << 17) << 15 : 0;
        return Check.sab(drawOperand(flows), drawOperand(flows), drawOperand(flows)) | high;
    }

    private static void oneRun(int run, int flows) {
        Metronome x = new Metronome();
        Model m = new Model();
        for (int i = 0; i < CALLS; i++) {
            oneCall("run " + run + ", call " + i + ": ", x, m, flows);
        }
    }

    private static void oneCall(String where, Metronome x, Model m, int flows) {
        int flow = drawFlow(flows);
        switch (draw(16)) {
            case 0, 1, 2, 3 -> {
                int kind = draw(40) == 0 ? orWild(draw(20) - 6) : draw(9);
                int ops = drawOps(flows);
                int c = drawNumber();
                String call = "define(" + flow + ", " + kind + ", " + ops + ", " + c + ")";
                Check.due(where + call, x.define(flow, kind, ops, c), m.define(flow, kind, ops, c));
            }
            case 4, 5 -> {
                int k = orWild(draw(12) - 4);
                int value = drawNumber();
                Check.due(where + "input(" + k + ", " + value + ")", x.input(k, value), m.input(k, value));
            }
            case 6, 7, 8 -> {
                int n = draw(20) == 0 ? orWild(draw(130) - 10) : draw(3);
                Check.due(where + "step(" + n + ")", x.step(n), m.step(n));
            }
            case 9 -> {
                if (draw(6) == 0) {
                    x.reset();
                    m.reset();
                }
            }
            case 10, 11 -> Check.due(where + "value(" + flow + ")", x.value(flow), m.value(flow));
            case 12 -> Check.due(where + "kind(" + flow + ")", x.kind(flow), m.kind(flow));
            case 13 -> {
                int b = drawFlow(flows);
                Check.due(where + "needs(" + flow + ", " + b + ")", x.needs(flow, b), m.needs(flow, b));
            }
            case 14 -> Check.due(where + "instants()", x.instants(), m.instants());
            default -> Check.due(where + "next(" + flow + ")", x.next(flow), m.next(flow));
        }
    }

    private record Definition(int kind, int a, int b, int s, int c, int given) {
        int[] named() {
            return switch (kind) {
                case Check.ADD, Check.SUB, Check.MUL, Check.LESS -> new int[] {a, b};
                case Check.MUX -> new int[] {s, a, b};
                case Check.PRE -> new int[] {a};
                case Check.HOLD -> new int[] {a, s};
                default -> new int[] {};
            };
        }

        int[] needed() {
            return kind == Check.PRE ? new int[] {} : named();
        }
    }

    private static final class Model {
        private final Definition[] definitions = new Definition[Check.FLOWS];
        private final int[] inputs = new int[4];
        private final java.util.ArrayList<int[]> history = new java.util.ArrayList<>();

        Model() {
            for (int flow = 0; flow < Check.FLOWS; flow++) {
                definitions[flow] = new Definition(Check.CONST, 0, 0, 0, 0, 0);
            }
        }

        private static boolean bad(int flow) {
            return flow < 0 || flow > 17;
        }

        int define(int flow, int kind, int ops, int c) {
            if (bad(flow)) {
                return -1;
            }
            if (kind < 0 || kind > 8) {
                return -2;
            }
            Definition given = new Definition(kind, ops & 31, ops >> 5 & 31, ops >> 10 & 31, c, history.size());
            for (int operand : given.named()) {
                if (bad(operand)) {
                    return -1;
                }
            }
            Definition old = definitions[flow];
            definitions[flow] = given;
            if (needs(flow, flow)) {
                definitions[flow] = old;
                return -3;
            }
            return allNeeds(flow).size();
        }

        private java.util.TreeSet<Integer> allNeeds(int flow) {
            java.util.TreeSet<Integer> seen = new java.util.TreeSet<>();
            collect(flow, seen);
            return seen;
        }

        private void collect(int flow, java.util.TreeSet<Integer> seen) {
            for (int operand : definitions[flow].needed()) {
                if (seen.add(operand)) {
                    collect(operand, seen);
                }
            }
        }

        int input(int k, int value) {
            int old = inputs[k & 3];
            inputs[k & 3] = value;
            return old;
        }

        int step(int n) {
            for (int i = 0; i < Math.min(n, 100); i++) {
                history.add(instant());
            }
            return history.size();
        }

        void reset() {
            history.clear();
            for (int flow = 0; flow < Check.FLOWS; flow++) {
                Definition d = definitions[flow];
                definitions[flow] = new Definition(d.kind, d.a, d.b, d.s, d.c, 0);
            }
        }

        int value(int flow) {
            return bad(flow) || history.isEmpty() ? 0 : history.get(history.size() - 1)[flow];
        }

        int kind(int flow) {
            return bad(flow) ? -1 : definitions[flow].kind;
        }

        boolean needs(int a, int b) {
            return !bad(a) && !bad(b) && allNeeds(a).contains(b);
        }

        int instants() {
            return history.size();
        }

        int next(int flow) {
            return bad(flow) ? 0 : instant()[flow];
        }

        private int[] instant() {
            Integer[] known = new Integer[Check.FLOWS];
            int[] values = new int[Check.FLOWS];
            for (int flow = 0; flow < Check.FLOWS; flow++) {
                values[flow] = work(flow, known);
            }
            return values;
        }

        private int work(int flow, Integer[] known) {
            if (known[flow] == null) {
                known[flow] = workAnew(flow, known);
            }
            return known[flow];
        }

        private int workAnew(int flow, Integer[] known) {
            Definition d = definitions[flow];
            boolean first = d.given == history.size();
            return switch (d.kind) {
                case Check.INPUT -> inputs[d.c & 3];
                case Check.CONST -> d.c;
                case Check.ADD -> work(d.a, known) + work(d.b, known);
                case Check.SUB -> work(d.a, known) - work(d.b, known);
                case Check.MUL -> work(d.a, known) * work(d.b, known);
                case Check.LESS -> work(d.a, known) < work(d.b, known) ? 1 : 0;
                case Check.MUX -> work(d.s, known) != 0 ? work(d.a, known) : work(d.b, known);
                case Check.PRE -> first ? d.c : value(d.a);
                default -> work(d.s, known) != 0 ? work(d.a, known) : first ? d.c : value(flow);
            };
        }
    }
}
