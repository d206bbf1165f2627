/** Promises 20 to 23 and what Terms say of runs, sentence by sentence: orders, steps, faults. */
public final class RunTest {
    private static final int FINE = TurtleChalk.FINE;
    private static final int LONG = TurtleChalk.LONG;
    private static final int OFF = TurtleChalk.OFF;
    private static final int RANGE = TurtleChalk.RANGE;
    private static final int DEEP = TurtleChalk.DEEP;
    private static final int UNKNOWN = TurtleChalk.UNKNOWN;
    private static final int[] NO_PROGRAMS = {-1, 1, 29, 30, 256, Integer.MAX_VALUE, Integer.MIN_VALUE};

    /** The name 0 is 999 behind these, or -999: 11 steps. */
    private static final String GREATEST = "s0=99 " + Script.times(9, "a0=99") + " a0=9";
    private static final String LEAST = "s0=-99 " + Script.times(9, "a0=-99") + " a0=-9";

    public static void main(String[] args) {
        ordersOfAProgram();
        values();
        namesAsValues();
        forward();
        turn();
        pen();
        setAndAdd();
        repeat();
        words();
        ends();
        counting();
        tooLong();
        offTheGround();
        outOfRange();
        tooDeep();
        unknownWords();
        severalFaults();
        brokenOrders();
        faultNumbers();
        stepsNumbers();
        strokesNumbers();
        strokesBySteps();
        stepsOutOfRange();
        runAfterRun();
        Check.finish();
    }

    private static void run(String text, int fault, int steps, int strokes) {
        TurtleChalk x = new TurtleChalk();
        int program = Script.write(x, 0, text);
        Check.due(text + ": fault", x.fault(program), fault);
        Check.due(text + ": steps", x.steps(program), steps);
        Check.due(text + ": strokes", x.strokes(program), strokes);
        Check.due(text + ": strokes by 600", x.strokesBySteps(program, 600), strokes);
    }

    /** Turns that count so many steps, 1 to 600, and leave the turtle as it was: at most 13 orders. */
    private static String wait(int steps) {
        int rounds = (steps - 1) / 6;
        int rest = steps - 1 - 6 * rounds;
        return "r" + rounds + " " + Script.times(6, "t0") + " e " + Script.times(rest, "t0");
    }

    // ---- orders

    private static void ordersOfAProgram() {
        Check.terms(12, "A program has 1 to 30 orders");
        run("t1", FINE, 1, 0);
        run("f1", FINE, 2, 1);
        run(Script.times(30, "t1"), FINE, 30, 0);
        run(Script.times(29, "t1") + " f1", FINE, 31, 1);
        Check.terms(20, "has the names 0 to 3, each with a number, 0 at first");
        run("fn0 fn1 fn2 fn3", FINE, 4, 0);
        run("a0=1 a1=2 a2=1 a3=2 fn0 t1 fn1 t1 fn2 t1 fn3", FINE, 17, 6);
        run("s0=1 s1=2 s2=3 s3=4 fn0 t1 fn1 t1 fn2 t1 fn3", FINE, 21, 10);
    }

    private static void values() {
        Check.terms(21, "Where an order has a value, this is a number, or what a name has by then.");
        run("s1=2 r4 fn1 t1 e", FINE, 18, 8);
        run("f0 s0=1 fn0 s0=2 fn0", FINE, 8, 3);
        run("fn0 s0=1", FINE, 2, 0);
        run("s3=2 s2=n3 s3=1 fn2", FINE, 6, 2);
        run("s0=3 s1=n0 a1=n0 fn1", FINE, 10, 6);
        run("s2=2 f2 fn2", FINE, 7, 4);
        run("r3 a0=1 fn0 e", FINE, 13, 6);
    }

    private static void namesAsValues() {
        Check.sentence(2, "`isName`: whether it is a name");
        run("s2=5 f2", FINE, 4, 2);
        run("s2=5 fn2", FINE, 7, 5);
        Check.sentence(3, "`isName`: whether it is a name");
        heading("s2=1 t2", 2);
        heading("s2=1 tn2", 1);
        Check.sentence(4, "`isDown`: whether it lowers it");
        run("pd f2", FINE, 4, 2);
        run("pu f2", FINE, 4, 0);
        Check.sentence(5, "`isName`: whether it is a name");
        run("s2=5 s1=2 fn1", FINE, 5, 2);
        run("s2=5 s1=n2 fn1", FINE, 8, 5);
        Check.sentence(6, "`isName`: whether it is a name");
        run("s2=5 a1=2 fn1", FINE, 5, 2);
        run("s2=5 a1=n2 fn1", FINE, 8, 5);
        Check.sentence(7, "`isName`: whether it is a name");
        run("s2=5 r2 f1 e", FINE, 6, 2);
        run("s2=5 rn2 f1 e", FINE, 12, 5);
    }

    private static void forward() {
        Check.terms(21, "forward by a value: that many times the turtle goes to the next point by its heading");
        run("f0", FINE, 1, 0);
        run("f1", FINE, 2, 1);
        run("f7", FINE, 8, 7);
        run("t2 f8", FINE, 10, 8);
        run("t2 f8 t2 f15", FINE, 27, 15);
        Check.terms(22, "and draws the stroke, if the pen is down");
        run("pu f3", FINE, 5, 0);
        run("pu f3 pd t2 f2", FINE, 10, 2);
        run("f3 t2 f3 t2 f3", FINE, 14, 3);
    }

    /** The heading in which the turtle goes behind the orders, 0 to 3. */
    private static void heading(String text, int due) {
        TurtleChalk x = new TurtleChalk();
        int program = Script.write(x, 0, text + " f1");
        int found = x.isDrawn(program, 8, 8, true) ? 0
                : x.isDrawn(program, 8, 8, false) ? 1
                : x.isDrawn(program, 8, 7, true) ? 2
                : x.isDrawn(program, 7, 8, false) ? 3 : TurtleChalk.NONE;
        Check.due(text + ": heading", found, due);
        Check.due(text + ": strokes", x.strokes(program), 1);
    }

    private static void turn() {
        Check.terms(20, "The turtle begins at the point (8, 8), heading 0, with the pen down.");
        heading("f0", 0);
        Check.terms(20, "Headings are 0 greater y, 1 greater x, 2 lesser y, 3 lesser x.");
        heading("t0", 0);
        heading("t1", 1);
        heading("t2", 2);
        heading("t3", 3);
        Check.terms(20, "the heading becomes the remainder of it and the value, together, by 4, which is 0 or more");
        heading("t4", 0);
        heading("t5", 1);
        heading("t99", 3);
        heading("t3 t1", 0);
        heading("t3 t3", 2);
        heading("t3 t99", 2);
        heading("t1 t1 t1 t1 t1", 1);
        heading("s0=-1 tn0", 3);
        heading("s0=-2 tn0", 2);
        heading("s0=-3 tn0", 1);
        heading("s0=-4 tn0", 0);
        heading("s0=-5 tn0", 3);
        heading("s0=-99 tn0", 1);
        heading("s0=-1 t3 tn0", 2);
        heading("s0=-3 t2 tn0", 3);
        heading(GREATEST + " tn0", 3);
        heading(GREATEST + " t1 tn0", 0);
        heading(LEAST + " tn0", 1);
        heading(LEAST + " t3 tn0", 0);
    }

    private static void pen() {
        Check.terms(22, "pen: it is up, or down, from then on");
        run("pd f1", FINE, 3, 1);
        run("pd pd f1", FINE, 4, 1);
        run("pu pu f1", FINE, 4, 0);
        run("pu pu pd f1", FINE, 5, 1);
        run("f1 pu f1 pd f1", FINE, 8, 2);
        run("w0 pu e c0 f1", FINE, 4, 0);
        run("r2 f1 pu e", FINE, 7, 1);
    }

    private static void setAndAdd() {
        Check.terms(22, "set a name to a value, or add a value to it");
        run("s0=3 fn0", FINE, 5, 3);
        run("s0=3 s0=2 fn0", FINE, 5, 2);
        run("s0=3 a0=2 fn0", FINE, 8, 5);
        run("a0=-3 a0=5 fn0", FINE, 5, 2);
        run("s0=3 s0=n0 fn0", FINE, 6, 3);
        run("s0=3 a0=n0 fn0", FINE, 9, 6);
        run("s0=3 s0=0 fn0", FINE, 3, 0);
        run("s0=-99 a0=99 fn0", FINE, 3, 0);
        run("s0=99 a0=-99 a0=n1 fn0", FINE, 4, 0);
        run("s3=1 a0=n3 a3=n0 fn3", FINE, 6, 2);
    }

    private static void repeat() {
        Check.terms(21, "the orders up to the end of its block are done that many times");
        run("r1 f1 e", FINE, 3, 1);
        run("r7 f1 e f0", FINE, 16, 7);
        run("r4 f2 t1 e", FINE, 17, 8);
        run("r99 t1 e", FINE, 100, 0);
        run(GREATEST + " t3 r2 e", FINE, 13, 0);
        Check.terms(21, "none for 0 or less");
        run("r0 f1 e f1", FINE, 3, 1);
        run("s0=-1 rn0 f1 e f2", FINE, 5, 2);
        run("s0=-5 rn0 f1 e", FINE, 2, 0);
        run(LEAST + " rn0 f1 e f1", FINE, 14, 1);
        run("rn3 f9 e", FINE, 1, 0);
        run("r0 c3 e f1", FINE, 3, 1);
        run("r0 r2 f9 e r2 f9 e e f1", FINE, 3, 1);
        Check.terms(21, "the value being what it is at first");
        run("s0=3 rn0 a0=1 e fn0", FINE, 12, 6);
        run("s0=3 rn0 s0=0 f1 e", FINE, 11, 3);
        run("s0=2 rn0 s0=-9 e", FINE, 4, 0);
        run("r2 s0=2 rn0 f1 a0=-1 e e", FINE, 17, 4);
        Check.terms(21, "Other blocks can be in one another.");
        run("r2 r3 t1 e e", FINE, 9, 0);
        run("r1 r0 t1 e e f1", FINE, 4, 1);
        run(Script.times(15, "r1") + " " + Script.times(15, "e"), FINE, 15, 0);
        run(Script.times(14, "r1") + " f1 " + Script.times(14, "e"), FINE, 16, 1);
        run("r2 r2 r2 t1 e e f1 e", FINE, 19, 2);
    }

    private static void words() {
        Check.terms(21, "it tells the orders up to the end of its block for one of the words 0 to 3, and does none");
        run("w0 f5 e", FINE, 0, 0);
        run("w0 f9 e f1", FINE, 2, 1);
        run("w0 e w1 e w2 e w3 e", FINE, 0, 0);
        run("w0 f1 e w1 f2 e w2 f3 e w3 f4 e c3", FINE, 6, 4);
        Check.terms(21, "call of an own word: its orders are done, wherever in the program they are told.");
        run("c0 w0 f1 e", FINE, 3, 1);
        run("c0 f1 w0 f1 e", FINE, 5, 2);
        run("w0 f1 e c0 c0", FINE, 6, 2);
        run("w1 e c1", FINE, 1, 0);
        run("r2 c2 t2 e w2 r2 f1 e e", FINE, 15, 2);
        run("w0 f1 t1 e w3 c0 c0 e c3 c3", FINE, 18, 4);
        run("w0 a0=-1 r1 e f1 rn0 c1 e e w1 f1 e s0=2 c0", FINE, 10, 2);
        run("s0=4 c0 w0 a0=-1 fn0 e", FINE, 7, 3);
        run("w0 s1=1 e c0 fn1", FINE, 4, 1);
        // A repeat goes on with its own rounds when a call inside it does the same repeat.
        run("w0 r2 a0=1 c1 e e w1 e c0", FINE, 6, 0);
        run("s0=2 c0 w0 a0=-1 s1=n0 rn0 c0 e f1 e", FINE, 13, 2);
    }

    private static void ends() {
        Check.terms(21, "end of a block.");
        run("r2 e f1", FINE, 3, 1);
        run("r2 f1 e f1 r2 t1 e", FINE, 10, 3);
        run("w0 r2 t1 e f1 e c0 f1", FINE, 8, 2);
    }

    // ---- steps

    private static void counting() {
        Check.terms(21, "A run counts a step for each order that is done");
        run("t0", FINE, 1, 0);
        run("f0", FINE, 1, 0);
        run("pd", FINE, 1, 0);
        run("s0=0", FINE, 1, 0);
        run("a0=0", FINE, 1, 0);
        run("w0 e c0", FINE, 1, 0);
        run("w0 t1 e c0", FINE, 2, 0);
        Check.terms(21, "own words and ends left out");
        run("w0 e", FINE, 0, 0);
        run("w0 r9 t9 e e w1 c0 e", FINE, 0, 0);
        run("t1 w0 t1 e t1", FINE, 2, 0);
        Check.terms(21, "a repeat once");
        run("r9 e", FINE, 1, 0);
        run("r3 t1 e", FINE, 4, 0);
        run("r0 t1 e", FINE, 1, 0);
        run("r99 r99 e e", FINE, 100, 0);
        run(GREATEST + " rn0 e", FINE, 12, 0);
        Check.terms(21, "and one for each point to which the turtle goes");
        run("f3", FINE, 4, 3);
        run("pu f3", FINE, 5, 0);
        run("f3 t2 f3", FINE, 9, 3);
    }

    private static void tooLong() {
        Check.terms(20, "LONG, if it would count more than 600 steps");
        run(wait(599), FINE, 599, 0);
        run(wait(600), FINE, 600, 0);
        run(wait(600) + " w0 e", FINE, 600, 0);
        run(wait(600) + " w0 t1 e", FINE, 600, 0);
        run(wait(600) + " t1", LONG, 600, 0);
        run(wait(600) + " pu", LONG, 600, 0);
        run(wait(600) + " s0=1", LONG, 600, 0);
        run(wait(600) + " r0 e", LONG, 600, 0);
        run(wait(599) + " r0 e", FINE, 600, 0);
        run(wait(599) + " r1 e", FINE, 600, 0);
        run(wait(599) + " r1 t1 e", LONG, 600, 0);
        run(wait(599) + " c0 w0 e", FINE, 600, 0);
        run(wait(599) + " c0 w0 t1 e", LONG, 600, 0);
        run(wait(595) + " f4", FINE, 600, 4);
        run(wait(595) + " f5", LONG, 600, 4);
        run(wait(595) + " f7", LONG, 600, 4);
        run(wait(599) + " f1", LONG, 600, 0);
        run(wait(599) + " f0", FINE, 600, 0);
        run("w1 r99 t1 e e r9 c1 e", LONG, 600, 0);
        run("r99 r99 r99 e e e", LONG, 600, 0);
        run(GREATEST + " rn0 t1 e", LONG, 600, 0);
        // Repeats of nothing count once each, however many times they are done.
        run(GREATEST + " r5 r97 rn0 e e e t0", FINE, 503, 0);
        run(GREATEST + " r6 r97 rn0 e e e", FINE, 600, 0);
        run(GREATEST + " r6 r97 rn0 e e e t0", LONG, 600, 0);
    }

    // ---- faults

    private static void offTheGround() {
        Check.terms(20, "The ground has the points with x and y from 0 to 15.");
        run("f7", FINE, 8, 7);
        run("t1 f7", FINE, 9, 7);
        run("t2 f8", FINE, 10, 8);
        run("t3 f8", FINE, 10, 8);
        run("t2 f8 t1 f8 t1 f15 t1 f15 t1 f15 t1 f15", FINE, 88, 68);
        Check.terms(20, "OFF, if the turtle would leave the ground");
        run("f8", OFF, 8, 7);
        run("f99", OFF, 8, 7);
        run("t1 f8", OFF, 9, 7);
        run("t2 f9", OFF, 10, 8);
        run("t3 f9", OFF, 10, 8);
        run("pu f8", OFF, 9, 0);
        run("pu f8 f1", OFF, 9, 0);
        run("f7 f1 t1 f1", OFF, 9, 7);
        run("f7 f0", FINE, 9, 7);
        run("f7 t1 f8", OFF, 17, 14);
        run("t2 f8 t1 f9", OFF, 20, 16);
        run("w0 f1 c0 e c0", OFF, 23, 7);
        run(GREATEST + " fn0", OFF, 19, 7);
    }

    private static void outOfRange() {
        Check.terms(20, "RANGE, if a name would be above 999");
        run("s0=99 " + Script.times(9, "a0=99"), FINE, 10, 0);
        run(GREATEST, FINE, 11, 0);
        run(GREATEST + " a0=0 f1", FINE, 14, 1);
        run(GREATEST + " s1=n0 s0=n1 f1", FINE, 15, 1);
        run(GREATEST + " a0=1 f1", RANGE, 12, 0);
        run(GREATEST + " a0=99 f1", RANGE, 12, 0);
        run(GREATEST + " a0=n0 f1", RANGE, 12, 0);
        run(GREATEST + " a1=n0 f1", FINE, 14, 1);
        run(GREATEST + " a1=1 a1=n0 f1", RANGE, 13, 0);
        run("s0=99 r99 a0=n0 e", RANGE, 6, 0);
        Check.terms(20, "or below -999");
        run(LEAST, FINE, 11, 0);
        run(LEAST + " a0=0 f1", FINE, 14, 1);
        run(LEAST + " a0=-1 f1", RANGE, 12, 0);
        run(LEAST + " a0=-99 f1", RANGE, 12, 0);
        run(LEAST + " a0=n0 f1", RANGE, 12, 0);
        run(LEAST + " a0=99 f1", FINE, 14, 1);
        run("s0=-99 " + Script.times(9, "a0=-99") + " a0=-10 f1", RANGE, 11, 0);
        Check.terms(20, "or forward has a value below 0");
        run("s0=-1 fn0", RANGE, 2, 0);
        run("s0=-99 fn0 f1", RANGE, 2, 0);
        run(LEAST + " fn0", RANGE, 12, 0);
        run("s0=0 fn0 f1", FINE, 4, 1);
        run("pu s0=-1 fn0", RANGE, 3, 0);
        run("f2 s0=-1 fn0 f2", RANGE, 5, 2);
        run("s0=-1 tn0 rn0 f9 e f1", FINE, 5, 1);
    }

    private static void tooDeep() {
        Check.terms(20, "DEEP, if calls would be in one another more than 8 deep");
        run("w0 c0 e c0", DEEP, 9, 0);
        run("w0 c0 e w1 c0 e c1", DEEP, 9, 0);
        run("w0 c1 e w1 c0 e c1", DEEP, 9, 0);
        run("s0=8 c0 w0 a0=-1 rn0 c0 s0=0 e e", FINE, 116, 0);
        run("s0=9 c0 w0 a0=-1 rn0 c0 s0=0 e e", DEEP, 26, 0);
        run("w0 f1 c0 e t2 c0", DEEP, 26, 8);
        // Calls that follow one another are not in one another.
        run("w0 a0=-1 s1=0 e c0 c0 c0 c0 c0 c0 c0 c0 c0 c0", FINE, 30, 0);
        run("w0 e w1 c0 c0 c0 c0 c0 c0 c0 c0 c0 e c1", FINE, 10, 0);
        run("w0 e r99 c0 e", FINE, 100, 0);
    }

    private static void unknownWords() {
        Check.terms(20, "UNKNOWN, if a word is called that has no block.");
        run("c0", UNKNOWN, 1, 0);
        run("c3", UNKNOWN, 1, 0);
        run("w0 e w1 e w2 e c3", UNKNOWN, 1, 0);
        run("f1 c3 f1 w2 e", UNKNOWN, 3, 1);
        run("w0 c1 e c0", UNKNOWN, 2, 0);
        run("w0 c1 e f1", FINE, 2, 1);
        run("r0 c1 e f1", FINE, 3, 1);
    }

    private static void severalFaults() {
        Check.terms(20, "Of several in one order LONG goes first");
        run(wait(600) + " c0", LONG, 600, 0);
        run(wait(599) + " c0", UNKNOWN, 600, 0);
        run(wait(600) + " f99", LONG, 600, 0);
        run("s0=-1 " + wait(599) + " fn0", LONG, 600, 0);
        run("s0=-1 " + wait(598) + " fn0", RANGE, 600, 0);
        run(GREATEST + " " + wait(589) + " a0=1", LONG, 600, 0);
        run(GREATEST + " " + wait(588) + " a0=1", RANGE, 600, 0);
        run("w0 c0 e " + wait(592) + " c0", LONG, 600, 0);
        run("w0 c0 e " + wait(591) + " c0", DEEP, 600, 0);
        // The turtle stands at the edge: its next point would be the 601st step, and off the ground.
        run("f7 " + wait(591) + " f1", LONG, 600, 7);
        run("f7 " + wait(590) + " f1", OFF, 599, 7);
        run(wait(592) + " f8", LONG, 600, 7);
        run(wait(591) + " f8", OFF, 599, 7);
        run(wait(590) + " t3 f9", LONG, 600, 8);
        run(wait(589) + " t3 f9", OFF, 599, 8);
        run(wait(591) + " t3 f9", LONG, 600, 7);
        // The point off the ground comes ahead of the 601st step, which is never reached.
        run(wait(589) + " f99", OFF, 597, 7);
        run(wait(587) + " t1 f9", OFF, 596, 7);
        Check.terms(20, "and UNKNOWN ahead of DEEP");
        run("s0=7 c0 w0 rn0 a0=-1 c0 e c1 e", UNKNOWN, 25, 0);
        run("s0=8 c0 w0 a0=-1 rn0 c0 e c1 e", UNKNOWN, 26, 0);
        run("w0 a0=-1 r1 e c1 e w1 c0 e c0", DEEP, 17, 0);
        // The ninth call in one another: of a word with a block, and of one without.
        run("c0 w0 a0=1 r1 s1=-7 a1=n0 rn1 c2 e e c0 e", UNKNOWN, 49, 0);
        run("c0 w0 a0=1 r1 s1=-7 a1=n0 rn1 c2 e e c0 e w2 e", DEEP, 49, 0);
    }

    private static void brokenOrders() {
        Check.terms(21, "an order that breaks off is counted, if that is not LONG");
        run("c0", UNKNOWN, 1, 0);
        run("t1 t1 c0", UNKNOWN, 3, 0);
        run("s0=-1 fn0", RANGE, 2, 0);
        run("f7 f1", OFF, 9, 7);
        run("w0 c0 e c0", DEEP, 9, 0);
        run(wait(600) + " t0", LONG, 600, 0);
        Check.terms(22, "a forward order draws and counts the points ahead of the one at which it breaks off");
        run("f9", OFF, 8, 7);
        run("f5 f5", OFF, 9, 7);
        run("pu f5 pd f5", OFF, 11, 2);
        run("s0=-3 fn0", RANGE, 2, 0);
        run(wait(597) + " f6", LONG, 600, 2);
        Check.terms(22, "The drawing of a program is what is drawn up to then.");
        run("f2 c0 f2", UNKNOWN, 4, 2);
        run("r99 f9 t2 e", OFF, 9, 7);
        run("w0 f1 t1 c0 e c0", DEEP, 33, 4);
        run("c0 f2", UNKNOWN, 1, 0);
    }

    // ---- promises 20 to 23

    private static void faultNumbers() {
        Check.sentence(20, "Returns FINE to UNKNOWN.");
        TurtleChalk x = new TurtleChalk();
        String[] texts = {"t1", wait(600) + " t1", "f8", "s0=-1 fn0", "w0 c0 e c0", "c0"};
        for (int fault = 0; fault < texts.length; fault++) {
            Check.due(texts[fault], x.fault(Script.write(x, 0, texts[fault])), fault);
        }
        Check.sentence(20, "Throws `IndexOutOfBoundsException` if there is no such program");
        TurtleChalk one = withOneProgram();
        for (int bad : NO_PROGRAMS) {
            Check.noIndex("fault(" + bad + ")", () -> one.fault(bad));
        }
        Check.noIndex("of none", () -> new TurtleChalk().fault(0));
        Check.due("of the last", one.fault(0), FINE);
    }

    private static void stepsNumbers() {
        Check.sentence(21, "Returns 0 to 600.");
        TurtleChalk x = new TurtleChalk();
        Check.due("none", x.steps(Script.write(x, 0, "w0 f1 e")), 0);
        Check.due("one", x.steps(Script.write(x, 0, "f0")), 1);
        Check.due("all", x.steps(Script.write(x, 0, wait(600))), 600);
        Check.due("too many", x.steps(Script.write(x, 0, "r99 r99 t1 e e")), 600);
        Check.sentence(21, "Throws `IndexOutOfBoundsException` if there is no such program");
        TurtleChalk one = withOneProgram();
        for (int bad : NO_PROGRAMS) {
            Check.noIndex("steps(" + bad + ")", () -> one.steps(bad));
        }
        Check.noIndex("of none", () -> new TurtleChalk().steps(0));
    }

    private static void strokesNumbers() {
        Check.sentence(22, "Returns how many.");
        TurtleChalk x = new TurtleChalk();
        Check.due("none", x.strokes(Script.write(x, 0, "t1")), 0);
        Check.due("one", x.strokes(Script.write(x, 0, "f1")), 1);
        String rows = "pu t2 f8 t1 f8 t2 pd r8 f15 t3 f1 t3 f15 s0=1 t1 fn0 t1 e";
        Check.due("rows", x.strokes(Script.write(x, 0, rows)), 16 * 15 + 15);
        Check.sentence(22, "Throws `IndexOutOfBoundsException` if there is no such program");
        TurtleChalk one = withOneProgram();
        for (int bad : NO_PROGRAMS) {
            Check.noIndex("strokes(" + bad + ")", () -> one.strokes(bad));
        }
        Check.noIndex("of none", () -> new TurtleChalk().strokes(0));
    }

    private static TurtleChalk withOneProgram() {
        TurtleChalk x = new TurtleChalk();
        Script.write(x, 0, "f1");
        return x;
    }

    /** How many strokes there are by 0 steps, by 1, and so on. */
    private static void by(String text, int... due) {
        TurtleChalk x = new TurtleChalk();
        Script.write(x, 0, text);
        for (int steps = 0; steps < due.length; steps++) {
            Check.due(text + " by " + steps, x.strokesBySteps(0, steps), due[steps]);
        }
    }

    private static void strokesBySteps() {
        Check.sentence(23, "Returns how many strokes there are when a run has counted some steps, "
                + "by doing its orders one by one.");
        by("r4 f2 t1 e", 0, 0, 0, 1, 2, 2, 2, 3, 4, 4, 4, 5, 6, 6, 6, 7, 8, 8, 8);
        by("w0 f2 pu f1 pd e t1 c0 t2 f3", 0, 0, 0, 0, 1, 2, 2, 2, 2, 2, 2, 2, 3, 3, 3);
        by("f2 t2 f3", 0, 0, 1, 2, 2, 2, 2, 2, 3, 3);
        by("f3 c0", 0, 0, 1, 2, 3, 3, 3);
        Check.sentence(23, "Returns how many.");
        by("t0", 0, 0);
        by("f7 t2 f15", 0, 0, 1, 2, 3, 4, 5, 6, 7, 7, 7, 7, 7, 7, 7, 7, 7, 7, 8, 9, 10, 11, 12, 13, 14, 15, 15);
        Check.sentence(23, "`steps`: 0 to 600: how many, or all, if there are fewer");
        by("w0 f1 e", 0, 0);
        by("f1", 0, 0, 1, 1, 1);
        by("pu t2 f8 pd t3 f2 t3 f1", 0, 0, 0, 0, 0, 0, 0, 0, 0, 0, 0, 0, 0, 0, 0, 1, 2, 2, 2, 3, 3);
        by("w0 f1 e c0", 0, 0, 0, 1, 1);
        TurtleChalk x = new TurtleChalk();
        Script.write(x, 0, "f9");
        Script.write(x, 0, wait(595) + " f6");
        Check.due("off, by 0", x.strokesBySteps(0, 0), 0);
        Check.due("off, by 5", x.strokesBySteps(0, 5), 4);
        Check.due("off, by 8", x.strokesBySteps(0, 8), 7);
        Check.due("off, by 600", x.strokesBySteps(0, 600), 7);
        Check.due("long, by 596", x.strokesBySteps(1, 596), 0);
        Check.due("long, by 597", x.strokesBySteps(1, 597), 1);
        Check.due("long, by 599", x.strokesBySteps(1, 599), 3);
        Check.due("long, by 600", x.strokesBySteps(1, 600), 4);
        Check.due("the drawing stays", x.strokes(0), 7);
        Check.due("the count stays", x.steps(0), 8);
        Check.due("the fault stays", x.fault(0), OFF);
    }

    private static void stepsOutOfRange() {
        TurtleChalk x = withOneProgram();
        Check.sentence(23, "Throws `IndexOutOfBoundsException` if there is no such program");
        for (int bad : NO_PROGRAMS) {
            Check.noIndex("strokesBySteps(" + bad + ", 1)", () -> x.strokesBySteps(bad, 1));
            Check.noIndex("strokesBySteps(" + bad + ", 601)", () -> x.strokesBySteps(bad, 601));
        }
        Check.sentence(23, "Throws `IllegalArgumentException` if steps is out of range");
        for (int bad : new int[] {-1, 601, Integer.MAX_VALUE, Integer.MIN_VALUE}) {
            Check.noArgument("strokesBySteps(0, " + bad + ")", () -> x.strokesBySteps(0, bad));
        }
        Check.due("strokesBySteps(0, 600)", x.strokesBySteps(0, 600), 1);
    }

    /** What a run that broke off leaves behind is nothing to the next one. */
    private static void runAfterRun() {
        Check.terms(20, "The turtle begins at the point (8, 8), heading 0, with the pen down.");
        TurtleChalk x = new TurtleChalk();
        String[] broken = {"r99 f9 e", "s0=9 s1=9 s2=9 s3=9 c3", "w0 t1 pu c0 e c0", "r99 r99 t1 e e", "t3 f9"};
        for (String text : broken) {
            int one = Script.write(x, 0, text);
            int next = Script.write(x, 0, "r0 f1 e fn0 fn3 f2");
            Check.due("after " + text + ": steps", x.steps(next), 6);
            Check.due("after " + text + ": strokes", x.strokes(next), 2);
            Check.due("after " + text + ": up", x.isDrawn(next, 8, 9, true), true);
            x.strokesBySteps(one, 4);
            Check.due("after " + text + ", by 5", x.strokesBySteps(next, 5), 1);
            int deep = Script.write(x, 0, "w0 c0 e c0");
            Check.due("after " + text + ": deep", x.steps(deep), 9);
            Check.due("after " + text + ": DEEP", x.fault(deep), DEEP);
        }
    }
}
