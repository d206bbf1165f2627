/** Promises 24 and 25 and what Terms say of drawings, sentence by sentence. */
public final class DrawingTest {
    private static final int[] NO_PROGRAMS = {-1, 1, 29, 30, 256, Integer.MAX_VALUE, Integer.MIN_VALUE};
    private static final int[] NO_PLACES = {-1, 16, 20, 256, Integer.MAX_VALUE, Integer.MIN_VALUE};

    /** The strokes all around the ground: 60. */
    private static final String AROUND = "pu t2 f8 t1 f8 t1 pd r4 f15 t1 e";

    public static void main(String[] args) {
        lesserPoints();
        sidesOfAStroke();
        setOfStrokes();
        least();
        greatest();
        noSuchPoint();
        noSuchProgram();
        shifted();
        unlike();
        withoutStrokes();
        noSuchProgramOfEither();
        Check.finish();
    }

    private static void lesserPoints() {
        Check.sentence(24, "`x`: 0 to 15: that of its lesser point");
        TurtleChalk x = new TurtleChalk();
        int right = Script.write(x, 0, "t1 f1");
        Check.due("right", x.isDrawn(right, 8, 8, false), true);
        Check.due("right, from its greater point", x.isDrawn(right, 9, 8, false), false);
        int left = Script.write(x, 0, "t3 f1");
        Check.due("left", x.isDrawn(left, 7, 8, false), true);
        Check.due("left, from its greater point", x.isDrawn(left, 8, 8, false), false);
        Check.sentence(24, "`y`: 0 to 15: that of its lesser point");
        int up = Script.write(x, 0, "f1");
        Check.due("up", x.isDrawn(up, 8, 8, true), true);
        Check.due("up, from its greater point", x.isDrawn(up, 8, 9, true), false);
        int down = Script.write(x, 0, "t2 f1");
        Check.due("down", x.isDrawn(down, 8, 7, true), true);
        Check.due("down, from its greater point", x.isDrawn(down, 8, 8, true), false);
    }

    private static void sidesOfAStroke() {
        Check.sentence(24, "`isUp`: whether it goes to greater y, otherwise to greater x");
        TurtleChalk x = new TurtleChalk();
        int up = Script.write(x, 0, "f1");
        int right = Script.write(x, 0, "t1 f1");
        Check.due("up, asked up", x.isDrawn(up, 8, 8, true), true);
        Check.due("up, asked to the right", x.isDrawn(up, 8, 8, false), false);
        Check.due("right, asked to the right", x.isDrawn(right, 8, 8, false), true);
        Check.due("right, asked up", x.isDrawn(right, 8, 8, true), false);
    }

    /** How many of all strokes of the ground are told to be drawn; an object is asked for one half of them. */
    private static int told(String text) {
        int found = 0;
        for (boolean isUp : new boolean[] {true, false}) {
            TurtleChalk x = new TurtleChalk();
            int program = Script.write(x, 0, text);
            for (int place = 0; place < 256; place++) {
                found += x.isDrawn(program, place % 16, place / 16, isUp) ? 1 : 0;
            }
        }
        return found;
    }

    private static void setOfStrokes() {
        Check.terms(24, "A stroke lies between two points beside one another; a drawing is a set of strokes.");
        TurtleChalk x = new TurtleChalk();
        int square = Script.write(x, 0, "r8 f1 t1 e");
        Check.due("a square drawn twice: strokes", x.strokes(square), 4);
        Check.due("its low side", x.isDrawn(square, 8, 8, false), true);
        Check.due("its high side", x.isDrawn(square, 8, 9, false), true);
        Check.due("its left side", x.isDrawn(square, 8, 8, true), true);
        Check.due("its right side", x.isDrawn(square, 9, 8, true), true);
        int back = Script.write(x, 0, "t1 f2 t2 f2");
        Check.due("there and back: strokes", x.strokes(back), 2);
        int lifted = Script.write(x, 0, "f1 pu f1 pd f1");
        Check.due("pen down at first", x.isDrawn(lifted, 8, 8, true), true);
        Check.due("pen lifted", x.isDrawn(lifted, 8, 9, true), false);
        Check.due("pen lowered", x.isDrawn(lifted, 8, 10, true), true);
        int faulty = Script.write(x, 0, "f2 c0 f2");
        Check.due("ahead of a fault", x.isDrawn(faulty, 8, 9, true), true);
        Check.due("what follows a fault", x.isDrawn(faulty, 8, 10, true), false);
        Check.due("a square and no more", told("r8 f1 t1 e"), 4);
        Check.due("around the ground and no more", told(AROUND), 60);
    }

    private static void least() {
        Check.terms(24, "The ground has the points with x and y from 0 to 15.");
        TurtleChalk x = new TurtleChalk();
        int around = Script.write(x, 0, AROUND);
        Check.due("no fault", x.fault(around), TurtleChalk.FINE);
        Check.due("up from (0, 0)", x.isDrawn(around, 0, 0, true), true);
        Check.due("right from (0, 0)", x.isDrawn(around, 0, 0, false), true);
        Check.due("up from (0, 14)", x.isDrawn(around, 0, 14, true), true);
        Check.due("right from (14, 0)", x.isDrawn(around, 14, 0, false), true);
        Check.due("up from (15, 0)", x.isDrawn(around, 15, 0, true), true);
        Check.due("up from (15, 14)", x.isDrawn(around, 15, 14, true), true);
        Check.due("right from (0, 15)", x.isDrawn(around, 0, 15, false), true);
        Check.due("right from (14, 15)", x.isDrawn(around, 14, 15, false), true);
        Check.due("right from (0, 14)", x.isDrawn(around, 0, 14, false), false);
        Check.due("up from (14, 0)", x.isDrawn(around, 14, 0, true), false);
    }

    /** No stroke has its lesser point there, but the points are on the ground. */
    private static void greatest() {
        Check.sentence(24, "Returns whether it is.");
        TurtleChalk x = new TurtleChalk();
        Script.write(x, 0, AROUND);
        Check.due("up from (15, 15)", x.isDrawn(0, 15, 15, true), false);
        Check.due("right from (15, 15)", x.isDrawn(0, 15, 15, false), false);
        Check.due("up from (0, 15)", x.isDrawn(0, 0, 15, true), false);
        Check.due("right from (15, 0)", x.isDrawn(0, 15, 0, false), false);
        Script.write(x, 0, "t1 f8");
        Check.due("right over the edge, which is not drawn", x.isDrawn(1, 15, 8, false), false);
        Check.due("right to the edge", x.isDrawn(1, 14, 8, false), true);
        Check.due("right over the edge, not in the next row", x.isDrawn(1, 0, 9, false), false);
        Script.write(x, 0, "f8");
        Check.due("up over the edge, which is not drawn", x.isDrawn(2, 8, 15, true), false);
        Check.due("up to the edge", x.isDrawn(2, 8, 14, true), true);
    }

    private static void noSuchPoint() {
        Check.sentence(24, "Throws `IndexOutOfBoundsException` if there is no such program or point");
        TurtleChalk x = new TurtleChalk();
        Script.write(x, 0, AROUND);
        for (int bad : NO_PLACES) {
            for (int i = 0; i < 2; i++) {
                boolean isUp = i == 0;
                Check.noIndex("x " + bad + ", " + isUp, () -> x.isDrawn(0, bad, 0, isUp));
                Check.noIndex("y " + bad + ", " + isUp, () -> x.isDrawn(0, 0, bad, isUp));
                Check.noIndex("both " + bad + ", " + isUp, () -> x.isDrawn(0, bad, bad, isUp));
            }
        }
    }

    private static void noSuchProgram() {
        Check.sentence(24, "there is no such program");
        TurtleChalk x = new TurtleChalk();
        Check.noIndex("of none", () -> x.isDrawn(0, 0, 0, true));
        Script.write(x, 0, "f1");
        for (int bad : NO_PROGRAMS) {
            Check.noIndex("program " + bad, () -> x.isDrawn(bad, 8, 8, true));
            Check.noIndex("program and x " + bad, () -> x.isDrawn(bad, bad, 8, true));
        }
    }

    private static void alike(String one, String other, boolean due) {
        TurtleChalk x = new TurtleChalk();
        Script.write(x, 0, one);
        Script.write(x, 1, other);
        Check.due(one + " and " + other, x.areAlike(0, 1), due);
        Check.due(other + " and " + one, x.areAlike(1, 0), due);
        Check.due(one + " and itself", x.areAlike(0, 0), true);
    }

    private static void shifted() {
        Check.terms(25, "Two drawings are alike, if one can be had from the other one by shifting it as a whole");
        alike("f2", "pu t2 f5 t2 pd f2", true);
        alike("f2", "t2 f2", true);
        alike("t1 f3", "t3 f3", true);
        alike("r4 f2 t1 e", "r4 f2 t3 e", true);
        alike("r4 f2 t1 e", "pu t1 f5 t2 t1 f5 t2 pd r4 f2 t1 e", true);
        alike("r4 f1 t1 e", "f1 t1 f1 t1 f1 t1 f1", true);
        alike("f1 t1 f1", "pu f1 t1 f1 t2 pd f1 t3 f1", true);
        alike("f7 t1 f7", "pu t2 f8 t3 f1 t1 t2 f1 t2 f1 t1 f1 t2 pd f7 t1 f7", false);
        alike("f7 t1 f7", "pu t2 f8 t1 f8 t1 pd f7 t1 f7", true);
        // From corner to corner: one stroke at (14, 15), the other one at (0, 0).
        alike("pu f7 t1 f6 pd f1", "pu t2 f8 t1 f8 t2 pd f1", true);
        alike("pu f6 t1 f7 t3 pd f1", "pu t2 f8 t1 f8 t1 pd f1", true);
        alike(AROUND, "pu f7 t1 f7 t1 pd r4 f15 t1 e", true);
        alike("f2 c0", "f2", true);
        alike("f9", "t2 f7", true);
    }

    private static void unlike() {
        Check.sentence(25, "Returns whether they are.");
        alike("f2", "f3", false);
        alike("f1", "t1 f1", false);
        alike("f2", "t1 f2", false);
        alike("f1 t1 f1", "t1 f1 t3 f1", false);
        alike("f1 t1 f1", "f1 t3 f1", false);
        alike("f1 pu f1 pd f1", "f2 pu f1 pd", false);
        alike("f1 pu f1 pd f1", "f1 pu f2 pd f1", false);
        alike("f3 t1 f1", "f2 t1 f1 t3 f1", false);
        alike("t1 f8", "t1 f7 t2 f8", false);
        alike(AROUND, "pu t2 f8 t1 f8 t1 pd r3 f15 t1 e f14", false);
    }

    private static void withoutStrokes() {
        Check.terms(25, "two without strokes are alike");
        alike("t1", "pu f7", true);
        alike("t1", "c0", true);
        alike("w0 f1 e", "f0", true);
        alike("f1", "t1", false);
        alike("pu f1", "f1", false);
    }

    private static void noSuchProgramOfEither() {
        Check.sentence(25, "Throws `IndexOutOfBoundsException` if there is no such program, of either");
        TurtleChalk x = new TurtleChalk();
        Check.noIndex("of none", () -> x.areAlike(0, 0));
        Script.write(x, 0, "f1");
        for (int bad : NO_PROGRAMS) {
            Check.noIndex("one " + bad, () -> x.areAlike(bad, 0));
            Check.noIndex("other " + bad, () -> x.areAlike(0, bad));
            Check.noIndex("both " + bad, () -> x.areAlike(bad, bad));
        }
        Check.due("the last one", x.areAlike(0, 0), true);
    }
}
