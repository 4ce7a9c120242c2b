/** Promise 4: step. */
public final class StepTest {
    public static void main(String[] args) {
        worksInstants();
        belowZeroCountsAsZero();
        aboveAHundredCountsAsAHundred();
        answersHowManyHaveBeenWorked();
        sinceTheLastReset();
        asManyAsCanBe();
        Check.end();
    }

    /** An object whose flow 1 counts the instants. */
    private static Metronome counter() {
        Metronome x = new Metronome();
        x.define(0, Check.PRE, Check.a(1), 0);
        x.define(2, Check.CONST, 0, 1);
        x.define(1, Check.ADD, Check.ab(0, 2), 0);
        return x;
    }

    private static void worksInstants() {
        Check.says("Works n instants");
        int[] counts = {0, 1, 2, 50, 99, 100};
        for (int count : counts) {
            Metronome x = counter();
            Check.due("step(" + count + ")", x.step(count), count);
            Check.due("the counter after it", x.value(1), count);
            Check.due("the flow before the counter", x.value(0), count == 0 ? 0 : count - 1);
        }
    }

    private static void belowZeroCountsAsZero() {
        Check.says("n below 0 counts as 0");
        int[] counts = {-1, -2, -100, -101, Check.LEAST, Check.LEAST + 1};
        Metronome x = counter();
        for (int count : counts) {
            Check.due("step(" + count + ") at the start", x.step(count), 0);
            Check.due("value(1) at the start", x.value(1), 0);
            Check.due("next(1) at the start", x.next(1), 1);
        }
        x.step(7);
        for (int count : counts) {
            Check.due("step(" + count + ")", x.step(count), 7);
            Check.due("value(1)", x.value(1), 7);
            Check.due("next(1)", x.next(1), 8);
        }
        Metronome y = Check.busy();
        y.step(-1);
        y.step(0);
        Check.alike("after step(-1) and step(0)", y, Check.busy());
    }

    private static void aboveAHundredCountsAsAHundred() {
        Check.says("above 100 as 100");
        int[] counts = {101, 102, 1000, 1 << 16, Check.MOST - 1, Check.MOST};
        for (int count : counts) {
            Metronome x = counter();
            Check.due("step(" + count + ")", x.step(count), 100);
            Check.due("the counter after it", x.value(1), 100);
            Check.due("step(" + count + ") again", x.step(count), 200);
            Check.due("the counter after both", x.value(1), 200);
        }
    }

    private static void answersHowManyHaveBeenWorked() {
        Check.says("Answers how many instants have been worked since the start");
        Metronome x = counter();
        int[] counts = {3, 0, -4, 1, 100, 250, 99};
        int[] worked = {3, 3, 3, 4, 104, 204, 303};
        for (int i = 0; i < counts.length; i++) {
            Check.due("step(" + counts[i] + ")", x.step(counts[i]), worked[i]);
            Check.due("the counter after it", x.value(1), worked[i]);
        }
        x.define(5, Check.CONST, 0, 1);
        x.input(0, 1);
        Check.due("step(1) after other calls", x.step(1), 304);
    }

    private static void sinceTheLastReset() {
        Check.says("or the last reset");
        Metronome x = counter();
        x.step(30);
        x.reset();
        Check.due("step(0) after a reset", x.step(0), 0);
        Check.due("step(2) after a reset", x.step(2), 2);
        Check.due("the counter after it", x.value(1), 2);
        x.reset();
        Check.due("step(101) after another reset", x.step(101), 100);
        Check.due("step(-1)", x.step(-1), 100);
    }

    private static void asManyAsCanBe() {
        Check.says("at most 512 calls");
        Metronome x = new Metronome();
        for (int i = 1; i <= 511; i++) {
            Check.due("step(100) no. " + i, x.step(100), 100 * i);
        }
        Check.due("instants()", x.instants(), 51100);
    }
}
