/** Promises 17 and 31 to 33 and what Terms say of the wall, sentence by sentence. */
public final class WallTest {
    private static final int NONE = TurtleChalk.NONE;
    private static final int FAR = Integer.MAX_VALUE;
    private static final int LOW = Integer.MIN_VALUE;

    /** A drawing as wide and as high as the ground. */
    private static final String AROUND = "pu t2 f8 t1 f8 t1 pd r4 f15 t1 e";

    public static void main(String[] args) {
        atFirst();
        onlyThoseThatMeet();
        risingNumbers();
        rectangles();
        oneCell();
        leastY();
        leastX();
        inGaps();
        under();
        noPlace();
        wholeGround();
        laidAnew();
        widths();
        heights();
        setWallAnswers();
        setWallRefuses();
        hangsAnswers();
        hangsRefuses();
        cells();
        cellsRefused();
        pupils();
        pupilsRefused();
        Check.finish();
    }

    /** An exercise for the program alone, and a work of it; the work's number. */
    private static int hang(TurtleChalk x, int pupil, String text) {
        int program = Script.write(x, pupil, text);
        return x.handIn(program, x.exercise(program, 30, 600));
    }

    /** Where works of one program hang, one after the other. */
    private static void hangOnWall(int width, int height, String text, int... due) {
        TurtleChalk x = new TurtleChalk();
        x.setWall(width, height);
        int program = Script.write(x, 0, text);
        x.exercise(program, 30, 600);
        for (int i = 0; i < due.length; i++) {
            Check.due(text + " on " + width + " by " + height + ", number " + i, x.hangs(x.handIn(program, 0)), due[i]);
        }
    }

    // ---- the rectangles and their places

    private static void atFirst() {
        Check.terms(32, "The wall has a width and a height in cells, 20 and 20 at first.");
        TurtleChalk x = new TurtleChalk();
        Check.due("the far corner", x.onWall(19, 19), NONE);
        Check.noIndex("x 20", () -> x.onWall(20, 19));
        Check.noIndex("y 20", () -> x.onWall(19, 20));
        int square = Script.write(x, 0, "pu t2 f8 t1 f8 t1 pd r4 f9 t1 e");
        x.exercise(square, 30, 600);
        for (int due : new int[] {0, 1000, 10, 1010, NONE}) {
            Check.due("10 by 10", x.hangs(x.handIn(square, 0)), due);
        }
    }

    private static void onlyThoseThatMeet() {
        Check.terms(31, "The works that meet their exercises, and are not in doubt, are hung");
        TurtleChalk x = new TurtleChalk();
        Script.write(x, 0, "f1");
        Script.write(x, 1, "f1");
        Script.write(x, 2, "f2");
        Script.write(x, 3, "f1 t0");
        x.exercise(0, 30, 600);
        Check.due("it meets", x.hangs(x.handIn(0, 0)), 0);
        Check.due("a copy in doubt", x.hangs(x.handIn(1, 0)), NONE);
        Check.due("one that does not meet", x.hangs(x.handIn(2, 0)), NONE);
        Check.due("it meets too", x.hangs(x.handIn(3, 0)), 100);
        x.clear(2, true);
        Check.due("one that does not meet, cleared", x.hangs(2), NONE);
        x.clear(1, true);
        Check.due("a cleared copy", x.hangs(1), 100);
        Check.due("the next one moves", x.hangs(3), 200);
    }

    private static void risingNumbers() {
        Check.terms(31, "by rising numbers");
        TurtleChalk x = new TurtleChalk();
        x.setWall(5, 1);
        Script.write(x, 0, "t1 f1");
        Script.write(x, 0, "t1 f2");
        x.exercise(1, 30, 600);
        x.exercise(0, 30, 600);
        Check.due("the greater program first", x.hangs(x.handIn(1, 0)), 0);
        Check.due("the lesser program next", x.hangs(x.handIn(0, 1)), 300);
        Check.due("no place any more", x.hangs(x.handIn(1, 0)), NONE);
        x.allow(0, 30, 0);
        Check.due("without the first", x.hangs(1), 0);
        x.allow(0, 30, 600);
        Check.due("the first is first again", x.hangs(0), 0);
        Check.due("the second follows", x.hangs(1), 300);
    }

    private static void rectangles() {
        Check.terms(32, "one more than its strokes are wide, and one more than they are high");
        TurtleChalk x = new TurtleChalk();
        x.setWall(4, 2);
        hang(x, 0, "f1");
        hang(x, 0, "t3 f1");
        Check.due("one stroke up: its upper cell", x.onWall(0, 1), 0);
        Check.due("one stroke up: beside", x.onWall(1, 0), 1);
        Check.due("one stroke to the side: its far cell", x.onWall(2, 0), 1);
        Check.due("one stroke to the side: above", x.onWall(1, 1), NONE);
        Check.due("one stroke to the side: beside", x.onWall(3, 0), NONE);
        TurtleChalk other = new TurtleChalk();
        Check.due("far from the middle", other.hangs(hang(other, 0, "pu f5 pd f1")), 0);
        Check.due("beside 1 wide", other.hangs(hang(other, 0, "t1 f4")), 100);
        Check.due("beside 5 wide", other.hangs(hang(other, 0, "f1 pu f2 t1 f3 pd f1")), 600);
        Check.due("two strokes with a gap: the far cell", other.onWall(10, 3), 2);
        Check.due("two strokes with a gap: beyond", other.onWall(11, 0), NONE);
        Check.due("two strokes with a gap: above", other.onWall(6, 4), NONE);
        Check.due("in the gap", other.onWall(7, 1), 2);
    }

    private static void oneCell() {
        Check.terms(31, "one cell without strokes");
        hangOnWall(2, 2, "t1", 0, 100, 1, 101, NONE);
        hangOnWall(1, 1, "pu f7", 0, NONE);
        TurtleChalk x = new TurtleChalk();
        hang(x, 0, "pu t1 f5");
        Check.due("its cell", x.onWall(0, 0), 0);
        Check.due("beside it", x.onWall(1, 0), NONE);
        Check.due("above it", x.onWall(0, 1), NONE);
    }

    private static void leastY() {
        Check.terms(31, "it hangs at the place with the least y");
        TurtleChalk x = new TurtleChalk();
        x.setWall(4, 4);
        Check.due("3 wide", x.hangs(hang(x, 0, "t1 f2")), 0);
        Check.due("2 wide: above, not beside", x.hangs(hang(x, 0, "t1 f1")), 1);
        Check.due("1 wide: beside the first, not above", x.hangs(hang(x, 0, "f1")), 300);
        Check.due("1 cell: beside the second", x.hangs(hang(x, 0, "t1")), 201);
        hangOnWall(1, 4, "f1", 0, 2, NONE);
        hangOnWall(1, 3, "t1", 0, 1, 2, NONE);
    }

    private static void leastX() {
        Check.terms(31, "of several with the least x");
        hangOnWall(4, 2, "f1", 0, 100, 200, 300, NONE);
        hangOnWall(40, 1, "t1 f7", 0, 800, 1600, 2400, 3200, NONE);
        hangOnWall(20, 13, "r4 f6 t1 e", 0, 700, NONE, NONE);
        hangOnWall(20, 14, "r4 f6 t1 e", 0, 700, 7, 707, NONE);
        hangOnWall(21, 14, "r4 f6 t1 e", 0, 700, 1400, 7, 707, 1407, NONE);
    }

    private static void inGaps() {
        Check.terms(31, "and has no cell in common with those that hang already");
        TurtleChalk x = new TurtleChalk();
        Check.due("narrow wall", x.setWall(6, 6), 0);
        Check.due("4 wide, 3 high", x.hangs(hang(x, 0, "f2 t1 f3")), 0);
        Check.due("1 wide, 5 high", x.hangs(hang(x, 0, "f4")), 400);
        Check.due("3 wide, 2 high", x.hangs(hang(x, 0, "t1 f2 t3 f1")), 3);
        Check.due("1 wide, 2 high", x.hangs(hang(x, 0, "t2 f1")), 500);
        Check.due("2 wide, 1 high", x.hangs(hang(x, 0, "t1 f1")), 5);
        Check.due("6 wide, 1 high", x.hangs(hang(x, 0, "t3 f5")), NONE);
    }

    /** A place that is just as high as the work, with another work above it. */
    private static void under() {
        TurtleChalk x = new TurtleChalk();
        x.setWall(6, 6);
        Check.due("4 wide, 3 high", x.hangs(hang(x, 0, "f2 t1 f3")), 0);
        Check.due("6 wide, 1 high", x.hangs(hang(x, 0, "t3 f5")), 3);
        Check.due("2 wide, 4 high, too high for the gap", x.hangs(hang(x, 0, "f3 t1 f1")), NONE);
        Check.due("3 wide, 1 high, too wide for the gap", x.hangs(hang(x, 0, "t1 f2")), 4);
        Check.due("1 wide, 3 high, in the gap", x.hangs(hang(x, 0, "f2")), 400);
        Check.due("1 wide, 3 high, beside it", x.hangs(x.handIn(4, 4)), 500);
        Check.due("below the other one", x.onWall(5, 2), 5);
        Check.due("the other one", x.onWall(5, 3), 1);
    }

    private static void noPlace() {
        Check.terms(31, "if there is none, it does not hang");
        TurtleChalk x = new TurtleChalk();
        x.setWall(3, 3);
        Check.due("as wide as the wall", x.hangs(hang(x, 0, "t1 f2")), 0);
        Check.due("wider than the wall", x.hangs(hang(x, 0, "t1 f3")), NONE);
        Check.due("higher than the wall", x.hangs(hang(x, 0, "f3")), NONE);
        Check.due("as high as what is left", x.hangs(hang(x, 0, "f1")), 1);
        Check.due("higher than what is left", x.hangs(hang(x, 0, "f2")), NONE);
        Check.due("a lesser one behind those that do not hang", x.hangs(hang(x, 0, "t1 f1")), 101);
        Check.due("it meets all the same", x.meets(1), true);
    }

    private static void wholeGround() {
        Check.terms(31, "at which its rectangle lies on the wall");
        hangOnWall(16, 16, AROUND, 0, NONE);
        hangOnWall(15, 16, AROUND, NONE);
        hangOnWall(16, 15, AROUND, NONE);
        TurtleChalk x = new TurtleChalk();
        x.setWall(40, 40);
        int program = Script.write(x, 0, AROUND);
        x.exercise(program, 30, 600);
        int[] due = {0, 1600, 16, 1616, NONE};
        for (int i = 0; i < due.length; i++) {
            Check.due("16 by 16, number " + i, x.hangs(x.handIn(program, 0)), due[i]);
        }
        Check.due("the last columns", x.hangs(hang(x, 1, "f7 t2 f7 f7")), 3200);
        // 8 wide and 15 high: beside the column 32 only 7 columns are free, so that it hangs above.
        Check.due("above it", x.hangs(hang(x, 1, "f7 t2 f7 f7 pu f1 t3 f7 t3 f1 pd f1")), 3215);
    }

    // ---- laid anew

    private static void laidAnew() {
        Check.terms(31, "The wall is laid anew with each change.");
        TurtleChalk x = new TurtleChalk();
        Script.write(x, 0, "f2");
        Script.write(x, 1, "f1 f1");
        Script.write(x, 2, "f2");
        x.exercise(0, 30, 600);
        x.handIn(0, 0);
        x.handIn(1, 0);
        x.handIn(2, 0);
        Check.due("a copy in doubt does not hang", x.hangs(2), NONE);
        x.clear(2, true);
        Check.due("a cleared one does", x.hangs(2), 200);
        x.allow(0, 1, 600);
        Check.due("too many orders", x.hangs(1), NONE);
        Check.due("the next one moves up", x.hangs(2), 100);
        x.allow(0, 30, 0);
        Check.due("none meets", x.onWall(0, 0), NONE);
        Check.due("none hangs", x.hung(0), 0);
        x.allow(0, 30, 600);
        Check.due("all as before", x.hangs(2), 200);
        x.clear(2, false);
        Check.due("in doubt again", x.hangs(2), NONE);
        Check.due("its cell is free", x.onWall(2, 0), NONE);
        x.setWall(1, 6);
        Check.due("on a narrow wall", x.hangs(1), 3);
        x.setWall(1, 5);
        Check.due("on a low one", x.hangs(1), NONE);
        x.setWall(20, 20);
        Check.due("on the first one", x.hangs(1), 100);
    }

    // ---- promise 17

    private static void widths() {
        Check.sentence(17, "`width`: 1 to 40");
        TurtleChalk x = new TurtleChalk();
        x.setWall(1, 20);
        Check.due("1: the only column", x.onWall(0, 19), NONE);
        Check.noIndex("1: beside it", () -> x.onWall(1, 19));
        x.setWall(40, 20);
        Check.due("40: the last column", x.onWall(39, 19), NONE);
        Check.noIndex("40: beside it", () -> x.onWall(40, 19));
    }

    private static void heights() {
        Check.sentence(17, "`height`: 1 to 40");
        TurtleChalk x = new TurtleChalk();
        x.setWall(20, 1);
        Check.due("1: the only row", x.onWall(19, 0), NONE);
        Check.noIndex("1: above it", () -> x.onWall(19, 1));
        x.setWall(20, 40);
        Check.due("40: the last row", x.onWall(19, 39), NONE);
        Check.noIndex("40: above it", () -> x.onWall(19, 40));
        x.setWall(40, 40);
        Check.due("40 by 40: the last cell", x.onWall(39, 39), NONE);
    }

    private static void setWallAnswers() {
        Check.sentence(17, "Returns how many works hang then.");
        TurtleChalk x = new TurtleChalk();
        Check.due("no works", x.setWall(40, 40), 0);
        hang(x, 0, "f4");
        hang(x, 0, "t1 f4");
        Check.due("the least wall", x.setWall(1, 1), 0);
        Check.due("1 by 5", x.setWall(1, 5), 1);
        Check.due("the first hangs", x.hangs(0), 0);
        Check.due("5 by 1", x.setWall(5, 1), 1);
        Check.due("the second hangs", x.hangs(1), 0);
        Check.due("5 by 5", x.setWall(5, 5), 1);
        Check.due("5 by 6", x.setWall(5, 6), 2);
        Check.due("the second on top", x.hangs(1), 5);
        Check.due("the same again", x.setWall(5, 6), 2);
        Check.due("the greatest wall", x.setWall(40, 40), 2);
        Check.due("the second beside", x.hangs(1), 100);
        TurtleChalk full = new TurtleChalk();
        hang(full, 0, "t1");
        for (int i = 1; i < 24; i++) {
            full.handIn(0, 0);
        }
        Check.due("all 24", full.setWall(24, 1), 24);
        Check.due("23 of 24", full.setWall(1, 23), 23);
        Check.due("20 of 24", full.setWall(4, 5), 20);
    }

    private static void setWallRefuses() {
        Check.sentence(17, "Throws `IllegalArgumentException` if width or height is out of range");
        TurtleChalk x = new TurtleChalk();
        hang(x, 0, "f4");
        for (int bad : new int[] {0, -1, -40, 41, 64, 256, FAR, LOW}) {
            Check.noArgument("width " + bad, () -> x.setWall(bad, 1));
            Check.noArgument("height " + bad, () -> x.setWall(1, bad));
            Check.noArgument("both " + bad, () -> x.setWall(bad, bad));
        }
        Check.due("the wall stays", x.onWall(19, 19), NONE);
        Check.due("the work hangs as ever", x.hangs(0), 0);
        Check.noIndex("the width stays", () -> x.onWall(20, 0));
        Check.noIndex("the height stays", () -> x.onWall(0, 20));
    }

    // ---- promises 31 to 33

    private static void hangsAnswers() {
        Check.sentence(31, "Returns 100 times the least x of its rectangle, and the least y, together; "
                + "NONE if it does not hang.");
        TurtleChalk x = new TurtleChalk();
        hang(x, 0, "t1");
        for (int i = 1; i < 24; i++) {
            x.handIn(0, 0);
        }
        x.setWall(1, 40);
        Check.due("the first", x.hangs(0), 0);
        Check.due("the last, in a column", x.hangs(23), 23);
        x.setWall(40, 1);
        Check.due("the last, in a row", x.hangs(23), 2300);
        x.setWall(23, 1);
        Check.due("the last, without a place", x.hangs(23), NONE);
        x.setWall(5, 5);
        Check.due("the last, in the fifth row", x.hangs(23), 304);
        x.setWall(1, 1);
        Check.due("the first, on the least wall", x.hangs(0), 0);
        Check.due("the second, on the least wall", x.hangs(1), NONE);
    }

    private static void hangsRefuses() {
        Check.sentence(31, "Throws `IndexOutOfBoundsException` if there is no such work");
        Check.noIndex("of none", () -> new TurtleChalk().hangs(0));
        TurtleChalk x = new TurtleChalk();
        hang(x, 0, "f1");
        for (int bad : new int[] {-1, 1, 23, 24, 256, FAR, LOW}) {
            Check.noIndex("hangs(" + bad + ")", () -> x.hangs(bad));
        }
        Check.due("hangs(0)", x.hangs(0), 0);
    }

    private static void cells() {
        Check.sentence(32, "Returns the number of the work; NONE if there is none.");
        TurtleChalk x = new TurtleChalk();
        hang(x, 0, "f2 t1 f1");
        hang(x, 0, "t1 f3");
        int[][] due = {{0, 0, 1, 1, 1, 1, NONE}, {0, 0, NONE, NONE, NONE, NONE, NONE},
            {0, 0, NONE, NONE, NONE, NONE, NONE}, {NONE, NONE, NONE, NONE, NONE, NONE, NONE}};
        for (int y = 0; y < due.length; y++) {
            for (int cx = 0; cx < due[y].length; cx++) {
                Check.due("cell " + cx + ", " + y, x.onWall(cx, y), due[y][cx]);
            }
        }
        TurtleChalk full = new TurtleChalk();
        full.setWall(6, 4);
        hang(full, 0, "t1");
        for (int i = 1; i < 24; i++) {
            full.handIn(0, 0);
        }
        Check.due("the first of 24", full.onWall(0, 0), 0);
        Check.due("the last of 24", full.onWall(5, 3), 23);
        Check.sentence(32, "`x`: from 0");
        Check.due("0", x.onWall(0, 2), 0);
        Check.due("19", x.onWall(19, 2), NONE);
        Check.sentence(32, "`y`: from 0");
        Check.due("0", x.onWall(5, 0), 1);
        Check.due("19", x.onWall(5, 19), NONE);
    }

    private static void cellsRefused() {
        Check.sentence(32, "Throws `IndexOutOfBoundsException` if the wall has no such cell");
        TurtleChalk x = new TurtleChalk();
        hang(x, 0, "f2");
        for (int bad : new int[] {-1, 20, 40, 64, 256, FAR, LOW}) {
            Check.noIndex("x " + bad, () -> x.onWall(bad, 0));
            Check.noIndex("y " + bad, () -> x.onWall(0, bad));
            Check.noIndex("both " + bad, () -> x.onWall(bad, bad));
        }
        x.setWall(30, 5);
        Check.due("the far cell of another wall", x.onWall(29, 4), NONE);
        Check.noIndex("its x 30", () -> x.onWall(30, 0));
        Check.noIndex("its y 5", () -> x.onWall(0, 5));
        x.setWall(1, 1);
        Check.due("the only cell, where none hangs", x.onWall(0, 0), NONE);
        Check.noIndex("a cell that a work had", () -> x.onWall(0, 1));
    }

    private static void pupils() {
        TurtleChalk x = new TurtleChalk();
        hang(x, 0, "f1");
        hang(x, 5, "f2");
        hang(x, 5, "f3");
        hang(x, 3, "f9");
        Check.sentence(33, "`pupil`: 0 to 5");
        int[] due = {1, 0, 0, 0, 0, 2};
        for (int pupil = 0; pupil < due.length; pupil++) {
            Check.due("hung(" + pupil + ")", x.hung(pupil), due[pupil]);
        }
        Check.sentence(33, "Returns how many.");
        x.setWall(40, 3);
        Check.due("hung(5) on a low wall", x.hung(5), 1);
        x.handIn(0, 0);
        Check.due("two works of one program", x.hung(0), 2);
        x.setWall(1, 1);
        Check.due("none has a place", x.hung(0), 0);
        Check.due("of a new object", new TurtleChalk().hung(0), 0);
        TurtleChalk full = new TurtleChalk();
        hang(full, 4, "t1");
        for (int i = 1; i < 24; i++) {
            full.handIn(0, 0);
        }
        Check.due("all 24", full.hung(4), 24);
        Check.due("none of the other pupil", full.hung(3), 0);
    }

    private static void pupilsRefused() {
        Check.sentence(33, "Throws `IndexOutOfBoundsException` if there is no such pupil");
        TurtleChalk x = new TurtleChalk();
        hang(x, 0, "f1");
        for (int bad : new int[] {-1, 6, 30, 256, FAR, LOW}) {
            Check.noIndex("hung(" + bad + ")", () -> x.hung(bad));
        }
    }
}
