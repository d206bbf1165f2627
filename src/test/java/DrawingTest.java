/** Promises 22, 24 and 25: drawings, and which are alike. */
public final class DrawingTest {
    public static void main(String[] args) {
        strokes();
        allStrokes();
        edges();
        refusals();
        shifted();
        unlike();
        Check.finish();
    }

    private static void strokes() {
        TurtleChalk x = new TurtleChalk();
        int up = Script.write(x, 0, "f1");
        Check.due("up", x.isDrawn(up, 8, 8, true), true);
        Check.due("up, to the right", x.isDrawn(up, 8, 8, false), false);
        Check.due("up, the next", x.isDrawn(up, 8, 9, true), false);
        int right = Script.write(x, 0, "t1 f1");
        Check.due("right", x.isDrawn(right, 8, 8, false), true);
        Check.due("right, up", x.isDrawn(right, 8, 8, true), false);
        int down = Script.write(x, 0, "t2 f1");
        Check.due("down", x.isDrawn(down, 8, 7, true), true);
        Check.due("down, from its greater point", x.isDrawn(down, 8, 8, true), false);
        int left = Script.write(x, 0, "t3 f1");
        Check.due("left", x.isDrawn(left, 7, 8, false), true);
        Check.due("left, from its greater point", x.isDrawn(left, 8, 8, false), false);
        int lifted = Script.write(x, 0, "f1 pu f1 pd f1");
        Check.due("pen down at first", x.isDrawn(lifted, 8, 8, true), true);
        Check.due("pen lifted", x.isDrawn(lifted, 8, 9, true), false);
        Check.due("pen lowered", x.isDrawn(lifted, 8, 10, true), true);
        int faulty = Script.write(x, 0, "f2 c0 f2");
        Check.due("ahead of a fault", x.strokes(faulty), 2);
        Check.due("what follows a fault", x.isDrawn(faulty, 8, 10, true), false);
    }

    private static void allStrokes() {
        TurtleChalk x = new TurtleChalk();
        int square = Script.write(x, 0, "r4 f1 t1 e");
        int found = 0;
        for (int px = 0; px < 16; px++) {
            for (int py = 0; py < 16; py++) {
                found += x.isDrawn(square, px, py, true) ? 1 : 0;
                found += x.isDrawn(square, px, py, false) ? 1 : 0;
            }
        }
        Check.due("a square has 4", found, 4);
        Check.due("its low side", x.isDrawn(square, 8, 8, false), true);
        Check.due("its high side", x.isDrawn(square, 8, 9, false), true);
        Check.due("its left side", x.isDrawn(square, 8, 8, true), true);
        Check.due("its right side", x.isDrawn(square, 9, 8, true), true);
    }

    private static void edges() {
        TurtleChalk x = new TurtleChalk();
        int far = Script.write(x, 0, "pu f7 t1 f7 pd t2 f1 t1 t2 f1");
        Check.due("the greatest points: no fault", x.fault(far), TurtleChalk.FINE);
        Check.due("the stroke to x 15", x.isDrawn(far, 14, 15, false), true);
        int corner = Script.write(x, 0, "pu t2 f8 t1 f8 pd t1 f1 t1 f1");
        Check.due("the least points: no fault", x.fault(corner), TurtleChalk.FINE);
        Check.due("the stroke from (0, 0)", x.isDrawn(corner, 0, 0, true), true);
        Check.due("no stroke from (15, 15) up", x.isDrawn(corner, 15, 15, true), false);
        Check.due("no stroke from (15, 15) right", x.isDrawn(corner, 15, 15, false), false);
    }

    private static void refusals() {
        TurtleChalk x = new TurtleChalk();
        Script.write(x, 0, "f1");
        for (int bad : new int[] {-1, 16, Integer.MAX_VALUE, Integer.MIN_VALUE}) {
            Check.noIndex("isDrawn, x " + bad, () -> x.isDrawn(0, bad, 0, true));
            Check.noIndex("isDrawn, y " + bad, () -> x.isDrawn(0, 0, bad, false));
            Check.noIndex("isDrawn, program " + bad, () -> x.isDrawn(bad, 0, 0, false));
            Check.noIndex("areAlike, one " + bad, () -> x.areAlike(bad, 0));
            Check.noIndex("areAlike, other " + bad, () -> x.areAlike(0, bad));
        }
        Check.noIndex("isDrawn, program 1", () -> x.isDrawn(1, 0, 0, false));
        Check.noIndex("areAlike, one 1", () -> x.areAlike(1, 0));
        Check.noIndex("areAlike, other 1", () -> x.areAlike(0, 1));
    }

    private static void alike(String one, String other, boolean due) {
        TurtleChalk x = new TurtleChalk();
        Script.write(x, 0, one);
        Script.write(x, 1, other);
        Check.due(one + " and " + other, x.areAlike(0, 1), due);
        Check.due(other + " and " + one, x.areAlike(1, 0), due);
        Check.due(one + " and itself", x.areAlike(0, 0), true);
    }

    private static void shifted() {
        alike("f2", "pu t2 f5 t2 pd f2", true);
        alike("f2", "t2 f2", true);
        alike("t1 f3", "t3 f3", true);
        alike("r4 f2 t1 e", "r4 f2 t3 e", true);
        alike("r4 f2 t1 e", "pu t1 f5 t2 t1 f5 t2 pd r4 f2 t1 e", true);
        alike("r4 f1 t1 e", "f1 t1 f1 t1 f1 t1 f1", true);
        alike("f1 t1 f1", "pu f1 t1 f1 t2 pd f1 t3 f1", true);
        alike("t1", "pu f7", true);
        alike("f7 t1 f7", "pu t2 f8 t3 f1 t1 t2 f1 t2 f1 t1 f1 t2 pd f7 t1 f7", false);
        alike("f7 t1 f7", "pu t2 f8 t1 f8 t1 pd f7 t1 f7", true);
        alike("pu f7 t1 f6 pd f1", "pu t2 f8 t1 f8 t2 pd f1", true);
    }

    private static void unlike() {
        alike("f2", "f3", false);
        alike("f1", "t1 f1", false);
        alike("f2", "t1 f2", false);
        alike("f1", "t1", false);
        alike("f1 t1 f1", "t1 f1 t3 f1", false);
        alike("f1 t1 f1", "f1 t3 f1", false);
        alike("f1 pu f1 pd f1", "f2 pu f1 pd", false);
        alike("f1 pu f1 pd f1", "f1 pu f2 pd f1", false);
        alike("f3 t1 f1", "f2 t1 f1 t3 f1", false);
    }
}
