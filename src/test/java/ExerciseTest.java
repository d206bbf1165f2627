/** Promises 13 to 16 and 28 to 30, sentence by sentence: exercises, works, copies and doubts. */
public final class ExerciseTest {
    private static final int NONE = TurtleChalk.NONE;
    private static final int FAR = Integer.MAX_VALUE;
    private static final int LOW = Integer.MIN_VALUE;
    private static final int[] NO_ORDERS = {0, -1, 31, 256, FAR, LOW};
    private static final int[] NO_STEPS = {-1, -600, 601, 999, FAR, LOW};
    private static final int[] NO_SECOND = {-1, 1, 6, 24, 30, 256, FAR, LOW};

    public static void main(String[] args) {
        exercise();
        exerciseRefuses();
        mostExercises();
        allow();
        allowBounds();
        allowRefuses();
        handIn();
        handInRefuses();
        mostWorks();
        clear();
        clearRefuses();
        works();
        meetsOrders();
        meetsSteps();
        meetsDrawing();
        meetsFaults();
        meetsAnswers();
        meetsNow();
        copies();
        copyOfTheLowest();
        copyAnswers();
        meetsAndCopyOfRefuse();
        Check.finish();
    }

    /** Program 0 by pupil 0, and exercise 0 for its drawing. */
    private static TurtleChalk withExercise(String text, int orders, int steps) {
        TurtleChalk x = new TurtleChalk();
        Script.write(x, 0, text);
        x.exercise(0, orders, steps);
        return x;
    }

    // ---- promise 13

    private static void exercise() {
        Check.sentence(13, "Returns the number of the exercise.");
        TurtleChalk x = new TurtleChalk();
        Script.write(x, 0, "f1");
        for (int i = 0; i < 6; i++) {
            Check.due("exercise " + i, x.exercise(0, 5, 5), i);
        }
        Check.sentence(13, "`program`: the number of the program whose drawing is wanted");
        TurtleChalk other = new TurtleChalk();
        Script.write(other, 0, "f1");
        Script.write(other, 0, "f2");
        Check.due("of the first program", other.exercise(0, 30, 600), 0);
        Check.due("of the last program", other.exercise(1, 30, 600), 1);
        Check.due("of the first program, met", other.meets(other.handIn(0, 0)), true);
        Check.due("of the last program, not met", other.meets(other.handIn(0, 1)), false);
        Check.due("of the last program, met", other.meets(other.handIn(1, 1)), true);
        Check.sentence(13, "`orders`: 1 to 30");
        TurtleChalk third = new TurtleChalk();
        Script.write(third, 0, "f1");
        Check.due("1", third.exercise(0, 1, 5), 0);
        Check.due("30", third.exercise(0, 30, 5), 1);
        Check.sentence(13, "`steps`: 0 to 600");
        Check.due("0", third.exercise(0, 5, 0), 2);
        Check.due("600", third.exercise(0, 5, 600), 3);
    }

    private static void exerciseRefuses() {
        Check.sentence(13, "Throws `IndexOutOfBoundsException` if there is no such program");
        Check.noIndex("of none", () -> new TurtleChalk().exercise(0, 5, 5));
        TurtleChalk x = new TurtleChalk();
        Script.write(x, 0, "f1");
        for (int bad : NO_SECOND) {
            Check.noIndex("program " + bad, () -> x.exercise(bad, 5, 5));
        }
        Check.sentence(13, "Throws `IllegalArgumentException` if orders or steps is out of range");
        for (int bad : NO_ORDERS) {
            Check.noArgument("orders " + bad, () -> x.exercise(0, bad, 5));
        }
        for (int bad : NO_STEPS) {
            Check.noArgument("steps " + bad, () -> x.exercise(0, 5, bad));
        }
        Check.noArgument("both", () -> x.exercise(0, 0, 601));
        Check.noIndex("no exercise was set", () -> x.handIn(0, 0));
        Check.due("the first then", x.exercise(0, 5, 5), 0);
    }

    private static void mostExercises() {
        Check.sentence(13, "Throws `IllegalStateException` if there are 6");
        TurtleChalk x = new TurtleChalk();
        Script.write(x, 0, "f1");
        for (int i = 0; i < 5; i++) {
            x.exercise(0, 5, 5);
        }
        Check.due("the 6th", x.exercise(0, 5, 5), 5);
        Check.noState("the 7th", () -> x.exercise(0, 5, 5));
        Check.noState("the 7th, once more", () -> x.exercise(0, 1, 0));
        Check.terms(13, "Exercises are numbered from 0 on, at most 6");
        Check.due("a work for the last", x.handIn(0, 5), 0);
        Check.noIndex("none has the number 6", () -> x.handIn(0, 6));
        Check.noIndex("none to change has the number 6", () -> x.allow(6, 5, 5));
    }

    // ---- promise 14

    private static void allow() {
        Check.sentence(14, "Returns how many works meet it then.");
        TurtleChalk x = new TurtleChalk();
        Script.write(x, 0, "f4");
        Script.write(x, 1, "f2 f2");
        Script.write(x, 2, "f1 f1 f1 f1");
        x.exercise(0, 30, 600);
        x.exercise(0, 1, 5);
        Check.due("no work yet", x.allow(0, 30, 600), 0);
        for (int program = 0; program < 3; program++) {
            x.handIn(program, 0);
            x.handIn(program, 1);
        }
        Check.due("all", x.allow(0, 4, 8), 3);
        Check.due("7 steps", x.allow(0, 4, 7), 2);
        Check.due("3 orders", x.allow(0, 3, 600), 2);
        Check.due("2 orders", x.allow(0, 2, 600), 2);
        Check.due("1 order", x.allow(0, 1, 600), 1);
        Check.due("the second does not meet", x.meets(2), false);
        Check.due("the first does", x.meets(0), true);
        Check.due("no step", x.allow(0, 30, 0), 0);
        Check.due("the other exercise stays", x.meets(1), true);
        Check.due("the other one: all", x.allow(1, 30, 600), 3);
        Check.due("the first exercise stays", x.meets(0), false);
        Check.due("all again", x.allow(0, 30, 600), 3);
        Check.due("it meets again", x.meets(0), true);
        TurtleChalk copies = withExercise("f1", 30, 600);
        copies.handIn(0, 0);
        copies.handIn(Script.write(copies, 1, "f1"), 0);
        Check.due("one in doubt meets it too", copies.allow(0, 30, 600), 2);
        copies.setWall(1, 1);
        Check.due("those that do not hang meet it too", copies.allow(0, 30, 600), 2);
    }

    private static void allowBounds() {
        Check.sentence(14, "`orders`: 1 to 30");
        TurtleChalk x = withExercise("f1", 5, 5);
        x.handIn(0, 0);
        x.handIn(Script.write(x, 0, Script.times(29, "t0") + " f1"), 0);
        Check.due("1", x.allow(0, 1, 600), 1);
        Check.due("29", x.allow(0, 29, 600), 1);
        Check.due("30", x.allow(0, 30, 600), 2);
        Check.sentence(14, "`steps`: 0 to 600");
        x.handIn(Script.write(x, 0, "f1 r99 t0 t0 t0 t0 t0 t0 e t0 t0 t0"), 0);
        x.handIn(Script.write(x, 0, "w0 f1 e"), 0);
        x.handIn(Script.write(x, 0, "f1"), 0);
        Check.due("0", x.allow(0, 30, 0), 0);
        Check.due("1", x.allow(0, 30, 1), 0);
        Check.due("2", x.allow(0, 30, 2), 2);
        Check.due("599", x.allow(0, 30, 599), 3);
        Check.due("600", x.allow(0, 30, 600), 4);
        TurtleChalk none = withExercise("w0 f1 e", 5, 0);
        none.handIn(0, 0);
        Check.due("0, and the work counts none", none.allow(0, 3, 0), 1);
    }

    private static void allowRefuses() {
        TurtleChalk x = withExercise("f4", 1, 5);
        x.handIn(0, 0);
        Check.sentence(14, "Throws `IndexOutOfBoundsException` if there is no such exercise");
        Check.noIndex("none", () -> new TurtleChalk().allow(0, 5, 5));
        for (int bad : NO_SECOND) {
            Check.noIndex("exercise " + bad, () -> x.allow(bad, 5, 5));
        }
        Check.sentence(14, "Throws `IllegalArgumentException` if orders or steps is out of range");
        for (int bad : NO_ORDERS) {
            Check.noArgument("orders " + bad, () -> x.allow(0, bad, 0));
        }
        for (int bad : NO_STEPS) {
            Check.noArgument("steps " + bad, () -> x.allow(0, 30, bad));
        }
        Check.noArgument("both", () -> x.allow(0, 31, -1));
        Check.due("it meets as ever", x.meets(0), true);
    }

    // ---- promise 15

    private static void handIn() {
        Check.sentence(15, "Returns the number of the work.");
        TurtleChalk x = withExercise("f1", 5, 5);
        Script.write(x, 1, "f2");
        x.exercise(1, 5, 5);
        Check.due("the first", x.handIn(0, 0), 0);
        Check.due("the same again", x.handIn(0, 0), 1);
        Check.due("for another exercise", x.handIn(0, 1), 2);
        Check.due("another program, which does not meet it", x.handIn(1, 0), 3);
    }

    private static void handInRefuses() {
        Check.sentence(15, "Throws `IndexOutOfBoundsException` if there is no such program or exercise");
        TurtleChalk x = withExercise("f1", 5, 5);
        for (int bad : NO_SECOND) {
            Check.noIndex("program " + bad, () -> x.handIn(bad, 0));
            Check.noIndex("exercise " + bad, () -> x.handIn(0, bad));
            Check.noIndex("both " + bad, () -> x.handIn(bad, bad));
        }
        Check.due("no work", x.works(), 0);
        TurtleChalk none = new TurtleChalk();
        Script.write(none, 0, "f1");
        Check.noIndex("no exercise", () -> none.handIn(0, 0));
    }

    private static void mostWorks() {
        Check.sentence(15, "Throws `IllegalStateException` if there are 24 works");
        TurtleChalk x = withExercise("f1", 5, 5);
        for (int i = 0; i < 23; i++) {
            x.handIn(0, 0);
        }
        Check.due("the 24th", x.handIn(0, 0), 23);
        Check.noState("the 25th", () -> x.handIn(0, 0));
        Check.noState("the 25th, once more", () -> x.handIn(0, 0));
        Check.terms(15, "Works are numbered from 0 on, at most 24");
        Check.due("works", x.works(), 24);
        Check.due("the last meets", x.meets(23), true);
        Check.noIndex("none has the number 24", () -> x.meets(24));
    }

    // ---- promises 16 and 28

    private static void clear() {
        TurtleChalk x = withExercise("f1", 30, 600);
        Script.write(x, 1, "f1");
        x.handIn(0, 0);
        x.handIn(1, 0);
        Check.terms(16, "A copy is in doubt, unless its doubt was cleared.");
        Check.due("it does not hang", x.hangs(1), NONE);
        x.clear(1, true);
        Check.due("a cleared one hangs", x.hangs(1), 100);
        Check.due("it is a copy as ever", x.copyOf(1), 0);
        x.clear(1, false);
        Check.due("not cleared any more, it does not hang", x.hangs(1), NONE);
        Check.due("it meets as ever", x.meets(1), true);
        Check.sentence(16, "Returns whether it was.");
        Check.due("at first", x.clear(1, true), false);
        Check.due("cleared twice", x.clear(1, true), true);
        Check.due("not any more", x.clear(1, false), true);
        Check.due("not any more, twice", x.clear(1, false), false);
        Check.due("not any more, at first", x.clear(0, false), false);
        Check.due("one that is no copy", x.clear(0, true), false);
        Check.due("one that is no copy, again", x.clear(0, false), true);
        Check.sentence(16, "`isCleared`: whether it is cleared from now on");
        Check.due("one that is no copy hangs without", x.hangs(0), 0);
        x.clear(1, true);
        x.allow(0, 30, 0);
        x.allow(0, 30, 600);
        Check.due("cleared, whatever is allowed", x.hangs(1), 100);
        Check.due("it was, whatever is allowed", x.clear(1, true), true);
        Check.due("the other one was not", x.clear(0, false), false);
    }

    private static void clearRefuses() {
        Check.sentence(16, "Throws `IndexOutOfBoundsException` if there is no such work");
        Check.noIndex("of none", () -> new TurtleChalk().clear(0, false));
        TurtleChalk x = withExercise("f1", 30, 600);
        x.handIn(0, 0);
        for (int bad : NO_SECOND) {
            Check.noIndex("work " + bad, () -> x.clear(bad, true));
            Check.noIndex("work " + bad + ", not any more", () -> x.clear(bad, false));
        }
        Check.due("the first is not cleared", x.clear(0, true), false);
    }

    private static void works() {
        Check.sentence(28, "Returns how many works there are.");
        TurtleChalk x = withExercise("f1", 30, 600);
        Check.due("none", x.works(), 0);
        for (int i = 1; i <= 24; i++) {
            x.handIn(0, 0);
            Check.due("works", x.works(), i);
        }
        Check.noState("the 25th", () -> x.handIn(0, 0));
        Check.due("works after the 25th", x.works(), 24);
    }

    // ---- promise 29

    /** Whether the work meets an exercise for "f3 t1 f2". */
    private static void meets(String work, int orders, int steps, boolean due) {
        TurtleChalk x = withExercise("f3 t1 f2", orders, steps);
        Script.write(x, 0, work);
        x.handIn(1, 0);
        Check.due(work + " within " + orders + " and " + steps, x.meets(0), due);
    }

    private static void meetsOrders() {
        Check.terms(29, "it has at most that many orders");
        meets("f3 t1 f2", 3, 600, true);
        meets("f3 t1 f2", 2, 600, false);
        meets("f3 t1 f2", 30, 600, true);
        meets("w0 e f3 t1 f2", 5, 600, true);
        meets("w0 e f3 t1 f2", 4, 600, false);
        meets(Script.times(27, "pd") + " f3 t1 f2", 30, 600, true);
        meets(Script.times(27, "pd") + " f3 t1 f2", 29, 600, false);
    }

    private static void meetsSteps() {
        Check.terms(29, "its run counts at most that many steps");
        meets("f3 t1 f2", 30, 8, true);
        meets("f3 t1 f2", 30, 7, false);
        meets("f3 t1 f2", 30, 0, false);
        meets("w0 e f3 t1 f2", 30, 8, true);
        meets("f3 t1 f2 r98 t0 t0 t0 t0 t0 t0 e t0 t0 t0", 30, 600, true);
        meets("f3 t1 f2 r98 t0 t0 t0 t0 t0 t0 e t0 t0 t0", 30, 599, false);
    }

    private static void meetsDrawing() {
        Check.terms(29, "its drawing is alike to the wanted one");
        meets("t3 f2 t3 f3", 30, 600, true);
        meets("t3 f2 t1 f3", 30, 600, false);
        meets("f3 t1 f3", 30, 600, false);
        meets("pu t2 f4 t2 pd f3 t1 f2", 30, 600, true);
        meets("t1", 30, 600, false);
        TurtleChalk x = withExercise("t1", 30, 600);
        Script.write(x, 0, "pu f1");
        Script.write(x, 0, "f1");
        Check.due("no strokes are wanted, and none drawn", x.meets(x.handIn(1, 0)), true);
        Check.due("no strokes are wanted, but one drawn", x.meets(x.handIn(2, 0)), false);
    }

    private static void meetsFaults() {
        Check.terms(29, "It meets the exercise, if its run has no fault");
        meets("f3 t1 f2 c0", 30, 600, false);
        meets("f3 t1 f2 pu f9", 30, 600, false);
        meets("f3 t1 f2 s0=-1 fn0", 30, 600, false);
        meets("f3 t1 f2 w0 c0 e c0", 30, 600, false);
        meets("f3 t1 f2 r99 r99 t0 e e", 30, 600, false);
        TurtleChalk x = new TurtleChalk();
        Script.write(x, 0, "f2 c0 f1");
        Script.write(x, 0, "f2");
        Script.write(x, 0, "c1");
        Script.write(x, 0, "t1");
        x.exercise(0, 3, 10);
        x.exercise(2, 3, 10);
        Check.due("what was drawn up to a fault is wanted", x.meets(x.handIn(1, 0)), true);
        Check.due("the faulty one itself does not meet", x.meets(x.handIn(0, 0)), false);
        Check.due("no strokes are wanted", x.meets(x.handIn(3, 1)), true);
        Check.due("a fault without strokes", x.meets(x.handIn(2, 1)), false);
    }

    private static void meetsAnswers() {
        Check.sentence(29, "Returns whether it does.");
        TurtleChalk x = withExercise("f1", 30, 600);
        Script.write(x, 1, "f2");
        x.handIn(0, 0);
        x.handIn(1, 0);
        x.handIn(Script.write(x, 2, "f1"), 0);
        Check.due("the first", x.meets(0), true);
        Check.due("another drawing", x.meets(1), false);
        Check.due("a copy in doubt", x.meets(2), true);
        x.setWall(1, 1);
        Check.due("one that does not hang", x.meets(0), true);
    }

    private static void meetsNow() {
        Check.terms(29, "all as they are now");
        TurtleChalk x = withExercise("f3", 1, 4);
        x.handIn(0, 0);
        x.handIn(Script.write(x, 0, "f1 f2"), 0);
        Check.due("the first", x.meets(0), true);
        Check.due("too many orders", x.meets(1), false);
        x.allow(0, 2, 5);
        Check.due("the second, allowed more", x.meets(1), true);
        x.allow(0, 2, 4);
        Check.due("the second, made stricter", x.meets(1), false);
        Check.due("the first stays", x.meets(0), true);
        x.allow(0, 2, 3);
        Check.due("the first, made stricter", x.meets(0), false);
    }

    // ---- promise 30

    private static void copies() {
        Check.terms(30, "A work is a copy of another one with a lesser number");
        TurtleChalk x = new TurtleChalk();
        Script.write(x, 0, "s0=3 fn0");
        Script.write(x, 1, "s2=3 fn2");
        Script.write(x, 0, "s1=3 fn1");
        Script.write(x, 2, "s0=4 fn0");
        x.exercise(0, 30, 600);
        x.exercise(0, 30, 600);
        Check.due("the first", x.copyOf(x.handIn(1, 0)), NONE);
        Check.due("of a lesser program, but handed in later", x.copyOf(x.handIn(0, 0)), 0);
        Check.due("the first stays", x.copyOf(0), NONE);
        Check.terms(30, "for the same exercise");
        Check.due("for another one", x.copyOf(x.handIn(0, 1)), NONE);
        Check.due("for that other one", x.copyOf(x.handIn(1, 1)), 2);
        Check.terms(30, "by another pupil");
        Check.due("by the pupil of the second", x.copyOf(x.handIn(2, 0)), 0);
        Check.due("by the pupil of the first", x.copyOf(x.handIn(1, 0)), 1);
        Check.terms(30, "whose program has the same form");
        Check.due("another number", x.copyOf(x.handIn(3, 0)), NONE);
    }

    private static void copyOfTheLowest() {
        Check.terms(30, "of several of that with the lowest number");
        TurtleChalk x = new TurtleChalk();
        Script.write(x, 0, "f9");
        Script.write(x, 1, "f9");
        Script.write(x, 2, "f9");
        x.exercise(0, 1, 0);
        x.handIn(0, 0);
        x.handIn(0, 0);
        x.handIn(1, 0);
        x.handIn(1, 0);
        x.handIn(2, 0);
        x.handIn(0, 0);
        Check.due("by the same pupil", x.copyOf(1), NONE);
        Check.due("of two by one pupil, without meeting", x.copyOf(2), 0);
        Check.due("again by the copier", x.copyOf(3), 0);
        Check.due("of four by two pupils", x.copyOf(4), 0);
        Check.due("the first one's pupil, after the copies", x.copyOf(5), 2);
    }

    private static void copyAnswers() {
        Check.sentence(30, "Returns the number of the other one; NONE if it is none.");
        TurtleChalk x = withExercise("f1", 30, 600);
        Script.write(x, 5, "f1");
        for (int i = 0; i < 23; i++) {
            x.handIn(0, 0);
        }
        x.handIn(1, 0);
        Check.due("the first", x.copyOf(0), NONE);
        Check.due("the last but one", x.copyOf(22), NONE);
        Check.due("the last of 24", x.copyOf(23), 0);
        x.clear(23, true);
        Check.due("a cleared one", x.copyOf(23), 0);
        x.allow(0, 1, 0);
        Check.due("one that does not meet any more", x.copyOf(23), 0);
    }

    private static void meetsAndCopyOfRefuse() {
        TurtleChalk x = withExercise("f1", 30, 600);
        x.handIn(0, 0);
        Check.sentence(29, "Throws `IndexOutOfBoundsException` if there is no such work");
        Check.noIndex("of none", () -> new TurtleChalk().meets(0));
        for (int bad : NO_SECOND) {
            Check.noIndex("meets(" + bad + ")", () -> x.meets(bad));
        }
        Check.sentence(30, "Throws `IndexOutOfBoundsException` if there is no such work");
        Check.noIndex("of none", () -> new TurtleChalk().copyOf(0));
        for (int bad : NO_SECOND) {
            Check.noIndex("copyOf(" + bad + ")", () -> x.copyOf(bad));
        }
        Check.due("works", x.works(), 1);
    }
}
