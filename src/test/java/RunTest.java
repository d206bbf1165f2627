/** Promises 20 to 23: what a run does, what it counts, and what breaks it off. */
public final class RunTest {
    private static final int FINE = TurtleChalk.FINE;
    private static final int LONG = TurtleChalk.LONG;
    private static final int OFF = TurtleChalk.OFF;
    private static final int RANGE = TurtleChalk.RANGE;
    private static final int DEEP = TurtleChalk.DEEP;
    private static final int UNKNOWN = TurtleChalk.UNKNOWN;

    public static void main(String[] args) {
        counting();
        values();
        repeats();
        words();
        tooLong();
        offTheGround();
        outOfRange();
        tooDeep();
        unknownWords();
        severalFaults();
        strokesBySteps();
        runAfterRun();
        wrongNumbers();
        Check.finish();
    }

    private static void run(String text, int fault, int steps, int strokes) {
        TurtleChalk x = new TurtleChalk();
        int program = Script.write(x, 0, text);
        Check.due(text + ": fault", x.fault(program), fault);
        Check.due(text + ": steps", x.steps(program), steps);
        Check.due(text + ": strokes", x.strokes(program), strokes);
        Check.due(text + ": strokes by 600", x.strokesBySteps(program, 600), strokes);
    }

    private static void counting() {
        run("f0", FINE, 1, 0);
        run("f7", FINE, 8, 7);
        run("t2 f8", FINE, 10, 8);
        run("pu f3 pd", FINE, 6, 0);
        run("pu f3 pd t2 f2", FINE, 10, 2);
        run("pd pd f1", FINE, 4, 1);
        run("f3 t2 f3 t2 f3", FINE, 14, 3);
        run("w0 f5 e", FINE, 0, 0);
        run("r4 f2 t1 e", FINE, 17, 8);
        run("r2 r3 t1 e e", FINE, 9, 0);
    }

    private static void values() {
        run("s1=2 r4 fn1 t1 e", FINE, 18, 8);
        run("f99", OFF, 8, 7);
        run("fn0", FINE, 1, 0);
        run("s0=3 s1=n0 a1=n0 fn1", FINE, 10, 6);
        run("a0=-3 a0=5 fn0", FINE, 5, 2);
        run("t99 f8", FINE, 10, 8);
        run("t5 f7 t1 f8", FINE, 19, 15);
        run("s0=-1 tn0 f8 t1 f7", FINE, 20, 15);
        run("s0=-99 tn0 f7 t1 f8", FINE, 20, 15);
        run("s3=2 s2=n3 s3=1 fn2", FINE, 6, 2);
    }

    private static void repeats() {
        run("r0 f1 e f1", FINE, 3, 1);
        run("s0=-5 rn0 f1 e", FINE, 2, 0);
        run("r3 e", FINE, 1, 0);
        run("r99 r99 e e", FINE, 100, 0);
        run("s0=3 rn0 a0=1 e fn0", FINE, 12, 6);
        run("s0=3 rn0 s0=0 f1 e", FINE, 11, 3);
        run("r2 s0=2 rn0 f1 a0=-1 e e", FINE, 17, 4);
        run("s0=99 " + Script.times(9, "a0=99") + " rn0 e", FINE, 11, 0);
        run("r1 r0 t1 e e f1", FINE, 4, 1);
        run(Script.times(15, "r1") + " " + Script.times(15, "e"), FINE, 15, 0);
        run(Script.times(14, "r1") + " f1 " + Script.times(14, "e"), FINE, 16, 1);
    }

    private static void words() {
        run("c0 w0 f1 e", FINE, 3, 1);
        run("w0 f1 e c0 c0", FINE, 6, 2);
        run("w0 f1 t1 e w3 c0 c0 e c3 c3", FINE, 18, 4);
        run("w1 e c1", FINE, 1, 0);
        run("w2 r2 f1 e e r2 c2 t2 e", FINE, 15, 2);
        run("w0 a0=-1 r1 e f1 rn0 c1 e e w1 f1 e s0=2 c0", FINE, 10, 2);
        run("s0=4 c0 w0 a0=-1 fn0 e", FINE, 7, 3);
        run("w0 s1=1 e c0 fn1", FINE, 4, 1);
        // A repeat goes on with its own rounds when a call inside it does the same repeat.
        run("w0 r2 a0=1 c1 e e w1 e c0", FINE, 6, 0);
        run("s0=2 c0 w0 a0=-1 s1=n0 rn0 c0 e f1 e", FINE, 13, 2);
    }

    private static void tooLong() {
        run("r99 t1 t1 t1 t1 t1 t1 e t1 t1 t1 t1 t1", FINE, 600, 0);
        run("r99 t1 t1 t1 t1 t1 t1 e t1 t1 t1 t1 t1 w0 e", FINE, 600, 0);
        run("r99 t1 t1 t1 t1 t1 t1 e t1 t1 t1 t1 t1 t1", LONG, 600, 0);
        run("r99 t1 t1 t1 t1 t1 t1 e f4", FINE, 600, 4);
        run("r99 t1 t1 t1 t1 t1 t1 e f5", LONG, 600, 4);
        run("r99 t1 t1 t1 t1 t1 t1 e t1 t1 t1 t1 f1", LONG, 600, 0);
        run("r99 t1 t1 t1 t1 t1 t1 e t1 t1 t1 t1 f0", FINE, 600, 0);
        run("w1 r99 t1 e e r9 c1 e", LONG, 600, 0);
        run("r99 r99 r99 e e e", LONG, 600, 0);
    }

    private static void offTheGround() {
        run("f8", OFF, 8, 7);
        run("t1 f8", OFF, 9, 7);
        run("t2 f9", OFF, 10, 8);
        run("t3 f9", OFF, 10, 8);
        run("pu f8 f1", OFF, 9, 0);
        run("f7 f1 t1 f1", OFF, 9, 7);
        run("w0 f1 c0 e c0", OFF, 23, 7);
    }

    private static void outOfRange() {
        run("s0=-1 fn0", RANGE, 2, 0);
        run("s0=99 " + Script.times(9, "a0=99"), FINE, 10, 0);
        run("s0=99 " + Script.times(9, "a0=99") + " a0=9 f1", FINE, 13, 1);
        run("s0=99 " + Script.times(9, "a0=99") + " a0=10 f1", RANGE, 11, 0);
        run("s0=-99 " + Script.times(9, "a0=-99") + " a0=-9 f1", FINE, 13, 1);
        run("s0=-99 " + Script.times(9, "a0=-99") + " a0=-10 f1", RANGE, 11, 0);
        run("s0=99 r99 a0=n0 e", RANGE, 6, 0);
        run("f2 s0=-1 fn0 f2", RANGE, 5, 2);
    }

    private static void tooDeep() {
        run("w0 c0 e c0", DEEP, 9, 0);
        run("w0 c0 e w1 c0 e c1", DEEP, 9, 0);
        run("w0 a0=-1 s1=0 e c0 c0 c0 c0 c0 c0 c0 c0 c0 c0", FINE, 30, 0);
        run("s0=8 c0 w0 a0=-1 rn0 c0 s0=0 e e", FINE, 116, 0);
        run("s0=9 c0 w0 a0=-1 rn0 c0 s0=0 e e", DEEP, 26, 0);
    }

    private static void unknownWords() {
        run("c0", UNKNOWN, 1, 0);
        run("f1 c3 f1 w2 e", UNKNOWN, 3, 1);
        run("w0 c1 e f1", FINE, 2, 1);
        run("r0 c1 e f1", FINE, 3, 1);
    }

    private static void severalFaults() {
        String to599 = "r99 t1 t1 t1 t1 t1 t1 e t1 t1 t1 t1";
        String to600 = to599 + " t1";
        run(to600 + " c0", LONG, 600, 0);
        run(to599 + " c0", UNKNOWN, 600, 0);
        run(to600 + " f99", LONG, 600, 0);
        // The last counted point is at the edge: the next one would be the 601st, and off the ground.
        run("f7 r99 t4 t4 t4 t4 t4 e r89 t4 e t4 t4 t4 t4 f1", OFF, 599, 7);
        run("f7 r99 t4 t4 t4 t4 t4 e r89 t4 e t4 t4 t4 t4 t4 f1", LONG, 600, 7);
        run("r99 t1 t1 t1 t1 t1 e r92 t0 e t3 f9", OFF, 599, 8);
        run("r99 t1 t1 t1 t1 t1 e r93 t0 e t3 f9", LONG, 600, 8);
        run("r99 t1 t1 t1 t1 t1 e r94 t0 e t3 f9", LONG, 600, 7);
        // The point off the ground comes ahead of the 601st step, which is never reached.
        run("r99 t1 t1 t1 t1 t1 e r90 t0 e t3 f99", OFF, 597, 8);
        run("r99 t1 t1 t1 t1 t1 e r91 t0 e t1 f9", OFF, 597, 7);
        run("s0=-1 " + "r99 t1 t1 t1 t1 t1 t1 e t1 t1 t1 t1 fn0", LONG, 600, 0);
        run("s0=-1 " + "r99 t1 t1 t1 t1 t1 t1 e t1 t1 t1 fn0", RANGE, 600, 0);
        run("w0 a0=-1 r1 e c1 e w1 c0 e c0", DEEP, 17, 0);
        // The ninth call in one another is of an unknown word.
        run("s0=7 c0 w0 rn0 a0=-1 c0 e c1 e", UNKNOWN, 25, 0);
        run("s0=8 c0 w0 a0=-1 rn0 c0 e c1 e", UNKNOWN, 26, 0);
    }

    private static void strokesBySteps() {
        TurtleChalk x = new TurtleChalk();
        Script.write(x, 0, "r4 f2 t1 e");
        int[] due = {0, 0, 0, 1, 2, 2, 2, 3, 4, 4, 4, 5, 6, 6, 6, 7, 8, 8, 8};
        for (int steps = 0; steps < due.length; steps++) {
            Check.due("by " + steps, x.strokesBySteps(0, steps), due[steps]);
        }
        Script.write(x, 0, "w0 f2 pu f1 pd e t1 c0 t2 f3");
        int[] other = {0, 0, 0, 0, 1, 2, 2, 2, 2, 2, 2, 2, 3, 3, 3};
        for (int steps = 0; steps < other.length; steps++) {
            Check.due("words by " + steps, x.strokesBySteps(1, steps), other[steps]);
        }
        Check.due("the drawing stays", x.strokes(0), 8);
        Check.due("the count stays", x.steps(0), 17);
        Script.write(x, 0, "f9");
        Check.due("off: by 5", x.strokesBySteps(2, 5), 4);
        Check.due("off: by 600", x.strokesBySteps(2, 600), 7);
        Check.noArgument("by 601", () -> x.strokesBySteps(0, 601));
        Check.noArgument("by -1", () -> x.strokesBySteps(0, -1));
        Check.noIndex("the program goes first", () -> x.strokesBySteps(3, 601));
    }

    /** What a run that broke off leaves behind is nothing to the next one. */
    private static void runAfterRun() {
        TurtleChalk x = new TurtleChalk();
        String[] broken = {"r99 f9 e", "s0=9 s1=9 s2=9 s3=9 c3", "w0 t1 pu c0 e c0", "r99 r99 t1 e e", "t3 f9"};
        for (int i = 0; i < broken.length; i++) {
            int one = Script.write(x, 0, broken[i]);
            int next = Script.write(x, 0, "r0 f1 e fn0 fn3 f2");
            Check.due("after " + broken[i] + ": steps", x.steps(next), 6);
            Check.due("after " + broken[i] + ": strokes", x.strokes(next), 2);
            Check.due("after " + broken[i] + ": up", x.isDrawn(next, 8, 9, true), true);
            x.strokesBySteps(one, 4);
            Check.due("after it, by 5", x.strokesBySteps(next, 5), 1);
            int deep = Script.write(x, 0, "w0 c0 e c0");
            Check.due("after " + broken[i] + ": deep", x.steps(deep), 9);
            Check.due("after " + broken[i] + ": DEEP", x.fault(deep), DEEP);
        }
    }

    private static void wrongNumbers() {
        TurtleChalk x = new TurtleChalk();
        Script.write(x, 0, "f1");
        for (int bad : new int[] {-1, 1, 30, Integer.MAX_VALUE, Integer.MIN_VALUE}) {
            Check.noIndex("fault(" + bad + ")", () -> x.fault(bad));
            Check.noIndex("steps(" + bad + ")", () -> x.steps(bad));
            Check.noIndex("strokes(" + bad + ")", () -> x.strokes(bad));
            Check.noIndex("strokesBySteps(" + bad + ")", () -> x.strokesBySteps(bad, 1));
        }
    }
}
