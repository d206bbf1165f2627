/** Promises 13 to 16 and 28 to 30: exercises, works, copies and doubts. */
public final class ExerciseTest {
    private static final int NONE = TurtleChalk.NONE;

    public static void main(String[] args) {
        exercise();
        exerciseRefuses();
        allow();
        allowRefuses();
        handIn();
        handInRefuses();
        meets();
        faultyWanted();
        copies();
        copyOfTheLowest();
        clear();
        wrongWorks();
        Check.finish();
    }

    private static void exercise() {
        TurtleChalk x = new TurtleChalk();
        Script.write(x, 0, "f1");
        Check.due("exercise, least", x.exercise(0, 1, 0), 0);
        Check.due("exercise, most", x.exercise(0, 30, 600), 1);
        for (int i = 2; i < 6; i++) {
            Check.due("exercise " + i, x.exercise(0, 5, 5), i);
        }
        Check.noState("exercise: there are 6", () -> x.exercise(0, 5, 5));
        Check.noArgument("exercise: the range goes first", () -> x.exercise(0, 0, 5));
        Check.noIndex("exercise: the program goes first", () -> x.exercise(1, 5, 5));
        Check.due("the last of 6", x.handIn(0, 5), 0);
        Check.noIndex("no seventh", () -> x.handIn(0, 6));
    }

    private static void exerciseRefuses() {
        TurtleChalk x = new TurtleChalk();
        Script.write(x, 0, "f1");
        for (int bad : new int[] {-1, 1, Integer.MAX_VALUE, Integer.MIN_VALUE}) {
            Check.noIndex("exercise of program " + bad, () -> x.exercise(bad, 0, -1));
        }
        for (int bad : new int[] {0, 31, Integer.MAX_VALUE, Integer.MIN_VALUE}) {
            Check.noArgument("exercise, orders " + bad, () -> x.exercise(0, bad, 5));
        }
        for (int bad : new int[] {-1, 601, Integer.MAX_VALUE, Integer.MIN_VALUE}) {
            Check.noArgument("exercise, steps " + bad, () -> x.exercise(0, 5, bad));
        }
        Check.noIndex("none was set", () -> x.handIn(0, 0));
        Check.due("the first then", x.exercise(0, 5, 5), 0);
    }

    private static void allow() {
        TurtleChalk x = new TurtleChalk();
        Script.write(x, 0, "f4");
        Script.write(x, 1, "f2 f2");
        Script.write(x, 2, "f1 f1 f1 f1");
        x.exercise(0, 30, 600);
        x.exercise(0, 1, 5);
        for (int program = 0; program < 3; program++) {
            x.handIn(program, 0);
            x.handIn(program, 1);
        }
        Check.due("allow all", x.allow(0, 4, 8), 3);
        Check.due("allow 7 steps", x.allow(0, 4, 7), 2);
        Check.due("allow 3 orders", x.allow(0, 3, 600), 2);
        Check.due("allow 2 orders", x.allow(0, 2, 600), 2);
        Check.due("allow 1 order", x.allow(0, 1, 600), 1);
        Check.due("the second does not meet", x.meets(2), false);
        Check.due("the first does", x.meets(0), true);
        Check.due("allow no step", x.allow(0, 30, 0), 0);
        Check.due("the other exercise stays", x.meets(1), true);
        Check.due("allow the other one all", x.allow(1, 30, 600), 3);
        Check.due("the first exercise stays", x.meets(0), false);
        Check.due("allow all again", x.allow(0, 30, 600), 3);
        Check.due("it meets again", x.meets(0), true);
    }

    private static void allowRefuses() {
        TurtleChalk x = new TurtleChalk();
        Script.write(x, 0, "f4");
        x.exercise(0, 1, 5);
        x.handIn(0, 0);
        for (int bad : new int[] {-1, 1, 6, Integer.MAX_VALUE, Integer.MIN_VALUE}) {
            Check.noIndex("allow, exercise " + bad, () -> x.allow(bad, 0, -1));
        }
        for (int bad : new int[] {0, 31, Integer.MAX_VALUE, Integer.MIN_VALUE}) {
            Check.noArgument("allow, orders " + bad, () -> x.allow(0, bad, 0));
        }
        for (int bad : new int[] {-1, 601, Integer.MAX_VALUE, Integer.MIN_VALUE}) {
            Check.noArgument("allow, steps " + bad, () -> x.allow(0, 30, bad));
        }
        Check.due("it meets as ever", x.meets(0), true);
        Check.due("allow counts copies in doubt too", copiesThatMeet(), 2);
    }

    private static int copiesThatMeet() {
        TurtleChalk x = new TurtleChalk();
        Script.write(x, 0, "f1");
        Script.write(x, 1, "f1");
        x.exercise(0, 30, 600);
        x.handIn(0, 0);
        x.handIn(1, 0);
        return x.allow(0, 30, 600);
    }

    private static void handIn() {
        TurtleChalk x = new TurtleChalk();
        Script.write(x, 0, "f1");
        x.exercise(0, 5, 5);
        for (int i = 0; i < 24; i++) {
            Check.due("handIn " + i, x.handIn(0, 0), i);
            Check.due("works", x.works(), i + 1);
        }
        Check.noState("handIn: there are 24", () -> x.handIn(0, 0));
        Check.noIndex("handIn: the program goes first", () -> x.handIn(1, 0));
        Check.noIndex("handIn: the exercise goes first", () -> x.handIn(0, 1));
        Check.due("works stay", x.works(), 24);
    }

    private static void handInRefuses() {
        TurtleChalk x = new TurtleChalk();
        Script.write(x, 0, "f1");
        x.exercise(0, 5, 5);
        for (int bad : new int[] {-1, 1, 30, Integer.MAX_VALUE, Integer.MIN_VALUE}) {
            Check.noIndex("handIn, program " + bad, () -> x.handIn(bad, 0));
            Check.noIndex("handIn, exercise " + bad, () -> x.handIn(0, bad));
        }
        Check.due("no work", x.works(), 0);
    }

    private static void meets(String work, int orders, int steps, boolean due) {
        TurtleChalk x = new TurtleChalk();
        Script.write(x, 0, "f3 t1 f2");
        Script.write(x, 0, work);
        x.exercise(0, orders, steps);
        x.handIn(1, 0);
        Check.due(work + " within " + orders + " and " + steps, x.meets(0), due);
    }

    private static void meets() {
        meets("f3 t1 f2", 3, 8, true);
        meets("f3 t1 f2", 2, 8, false);
        meets("f3 t1 f2", 3, 7, false);
        meets("t3 f2 t3 f3", 30, 600, true);
        meets("t3 f2 t1 f3", 30, 600, false);
        meets("f3 t1 f3", 30, 600, false);
        meets("pu t2 f4 t2 pd f3 t1 f2", 30, 600, true);
        meets("f3 t1 f2 c0", 30, 600, false);
        meets("f3 t1 f2 pu f9", 30, 600, false);
        meets("w0 e f3 t1 f2", 5, 8, true);
        meets("w0 e f3 t1 f2", 4, 8, false);
        meets("t1", 30, 600, false);
    }

    private static void faultyWanted() {
        TurtleChalk x = new TurtleChalk();
        Script.write(x, 0, "f2 c0 f1");
        Script.write(x, 0, "f2");
        Script.write(x, 0, "c1");
        Script.write(x, 0, "t1");
        x.exercise(0, 1, 10);
        x.exercise(2, 1, 10);
        x.handIn(1, 0);
        x.handIn(0, 0);
        x.handIn(3, 1);
        x.handIn(2, 1);
        Check.due("what was drawn up to a fault is wanted", x.meets(0), true);
        Check.due("the faulty one itself does not meet", x.meets(1), false);
        Check.due("no strokes are wanted", x.meets(2), true);
        Check.due("a fault without strokes", x.meets(3), false);
    }

    private static void copies() {
        TurtleChalk x = new TurtleChalk();
        Script.write(x, 0, "s0=3 fn0");
        Script.write(x, 1, "s2=3 fn2");
        Script.write(x, 0, "s1=3 fn1");
        Script.write(x, 2, "s0=4 fn0");
        x.exercise(0, 30, 600);
        x.exercise(0, 30, 600);
        Check.due("the first", x.copyOf(x.handIn(0, 0)), NONE);
        Check.due("another exercise", x.copyOf(x.handIn(1, 1)), NONE);
        Check.due("another pupil", x.copyOf(x.handIn(1, 0)), 0);
        Check.due("another form", x.copyOf(x.handIn(3, 0)), NONE);
        Check.due("the first one's pupil, after the copy", x.copyOf(x.handIn(2, 0)), 2);
        Check.due("the copied one's other exercise", x.copyOf(x.handIn(0, 1)), 1);
        Check.due("the first stays", x.copyOf(0), NONE);
    }

    private static void copyOfTheLowest() {
        TurtleChalk x = new TurtleChalk();
        Script.write(x, 0, "f9");
        Script.write(x, 1, "f9");
        Script.write(x, 2, "f9");
        x.exercise(0, 1, 0);
        x.handIn(0, 0);
        x.handIn(0, 0);
        x.handIn(1, 0);
        x.handIn(1, 0);
        x.handIn(2, 0);
        Check.due("by the same pupil", x.copyOf(1), NONE);
        Check.due("of two by one pupil, without meeting", x.copyOf(2), 0);
        Check.due("again by the copier", x.copyOf(3), 0);
        Check.due("of four by two pupils", x.copyOf(4), 0);
    }

    private static void clear() {
        TurtleChalk x = new TurtleChalk();
        Script.write(x, 0, "f1");
        Script.write(x, 1, "f1");
        x.exercise(0, 30, 600);
        x.handIn(0, 0);
        x.handIn(1, 0);
        Check.due("clear", x.clear(1, true), false);
        Check.due("it hangs", x.hangs(1) != NONE, true);
        Check.due("it is a copy as ever", x.copyOf(1), 0);
        Check.due("clear again", x.clear(1, true), true);
        Check.due("not any more", x.clear(1, false), true);
        Check.due("it does not hang", x.hangs(1), NONE);
        Check.due("it meets as ever", x.meets(1), true);
        Check.due("not any more again", x.clear(1, false), false);
        Check.due("clear one that is no copy", x.clear(0, true), false);
        Check.due("it was", x.clear(0, false), true);
        Check.due("it hangs without", x.hangs(0), 0);
    }

    private static void wrongWorks() {
        TurtleChalk x = new TurtleChalk();
        Script.write(x, 0, "f1");
        x.exercise(0, 30, 600);
        x.handIn(0, 0);
        for (int bad : new int[] {-1, 1, 24, Integer.MAX_VALUE, Integer.MIN_VALUE}) {
            Check.noIndex("clear(" + bad + ")", () -> x.clear(bad, true));
            Check.noIndex("meets(" + bad + ")", () -> x.meets(bad));
            Check.noIndex("copyOf(" + bad + ")", () -> x.copyOf(bad));
            Check.noIndex("hangs(" + bad + ")", () -> x.hangs(bad));
        }
        Check.due("works", x.works(), 1);
    }
}
