/** Promises 17 and 31 to 33: the wall. */
public final class WallTest {
    private static final int NONE = TurtleChalk.NONE;

    public static void main(String[] args) {
        rows();
        gaps();
        under();
        oneStroke();
        oneCell();
        sizes();
        laidAnew();
        cells();
        pupils();
        setWall();
        refusals();
        wholeGround();
        Check.finish();
    }

    /** An exercise for the program alone, and a work of it; the work's number. */
    private static int hang(TurtleChalk x, int pupil, String text) {
        int program = Script.write(x, pupil, text);
        return x.handIn(program, x.exercise(program, 30, 600));
    }

    private static void rows() {
        TurtleChalk x = new TurtleChalk();
        int square = Script.write(x, 0, "r4 f6 t1 e");
        x.exercise(square, 30, 600);
        int[] due = {0, 700, NONE, NONE};
        x.setWall(20, 13);
        for (int i = 0; i < due.length; i++) {
            Check.due("7 by 7, number " + i, x.hangs(x.handIn(square, 0)), due[i]);
        }
        Check.due("one row more", x.setWall(20, 14), 4);
        Check.due("the third", x.hangs(2), 7);
        Check.due("the fourth", x.hangs(3), 707);
        Check.due("one column more", x.setWall(21, 14), 4);
        Check.due("the third beside", x.hangs(2), 1400);
        Check.due("the fourth below", x.hangs(3), 7);
    }

    private static void gaps() {
        TurtleChalk x = new TurtleChalk();
        Check.due("narrow wall", x.setWall(6, 6), 0);
        Check.due("4 wide, 3 high", x.hangs(hang(x, 0, "f2 t1 f3")), 0);
        Check.due("1 wide, 5 high", x.hangs(hang(x, 0, "f4")), 400);
        Check.due("3 wide, 2 high", x.hangs(hang(x, 0, "t1 f2 t3 f1")), 3);
        Check.due("1 wide, 2 high", x.hangs(hang(x, 0, "t2 f1")), 500);
        Check.due("2 wide, 1 high", x.hangs(hang(x, 0, "t1 f1")), 5);
        Check.due("6 wide, 1 high", x.hangs(hang(x, 0, "t3 f5")), NONE);
    }

    /** A place that is just as high as the work, with another work above it. */
    private static void under() {
        TurtleChalk x = new TurtleChalk();
        x.setWall(6, 6);
        Check.due("4 wide, 3 high", x.hangs(hang(x, 0, "f2 t1 f3")), 0);
        Check.due("6 wide, 1 high", x.hangs(hang(x, 0, "t3 f5")), 3);
        Check.due("2 wide, 4 high, too high for the gap", x.hangs(hang(x, 0, "f3 t1 f1")), NONE);
        Check.due("3 wide, 1 high, too wide for the gap", x.hangs(hang(x, 0, "t1 f2")), 4);
        Check.due("1 wide, 3 high, in the gap", x.hangs(hang(x, 0, "f2")), 400);
        Check.due("1 wide, 3 high, beside it", x.hangs(x.handIn(4, 4)), 500);
        Check.due("below the other one", x.onWall(5, 2), 5);
        Check.due("the other one", x.onWall(5, 3), 1);
    }

    private static void oneStroke() {
        TurtleChalk x = new TurtleChalk();
        x.setWall(4, 2);
        hang(x, 0, "f1");
        hang(x, 0, "t3 f1");
        Check.due("one stroke up: its upper cell", x.onWall(0, 1), 0);
        Check.due("one stroke up: beside", x.onWall(1, 0), 1);
        Check.due("one stroke to the side: its far cell", x.onWall(2, 0), 1);
        Check.due("one stroke to the side: above", x.onWall(1, 1), NONE);
        Check.due("one stroke to the side: beside", x.onWall(3, 0), NONE);
    }

    private static void oneCell() {
        TurtleChalk x = new TurtleChalk();
        int still = Script.write(x, 0, "t1");
        x.exercise(still, 30, 600);
        x.setWall(2, 2);
        int[] due = {0, 100, 1, 101, NONE};
        for (int i = 0; i < due.length; i++) {
            Check.due("one cell, number " + i, x.hangs(x.handIn(still, 0)), due[i]);
        }
        Check.due("all cells are taken", x.onWall(1, 1), 3);
        Check.due("four hang", x.hung(0), 4);
    }

    private static void sizes() {
        TurtleChalk x = new TurtleChalk();
        Check.due("far from the middle", x.hangs(hang(x, 0, "pu f5 pd f1")), 0);
        Check.due("beside 1 wide", x.hangs(hang(x, 0, "t1 f4")), 100);
        Check.due("beside 5 wide", x.hangs(hang(x, 0, "f1 pu f2 t1 f3 pd f1")), 600);
        Check.due("two strokes with a gap: the far cell", x.onWall(10, 3), 2);
        Check.due("two strokes with a gap: beyond", x.onWall(11, 0), NONE);
        Check.due("two strokes with a gap: above", x.onWall(6, 4), NONE);
        Check.due("in the gap", x.onWall(7, 1), 2);
    }

    private static void laidAnew() {
        TurtleChalk x = new TurtleChalk();
        Script.write(x, 0, "f2");
        Script.write(x, 1, "f1 f1");
        Script.write(x, 2, "f2");
        x.exercise(0, 30, 600);
        x.handIn(0, 0);
        x.handIn(1, 0);
        x.handIn(2, 0);
        Check.due("a copy in doubt does not hang", x.hangs(2), NONE);
        x.clear(2, true);
        Check.due("a cleared one does", x.hangs(2), 200);
        x.allow(0, 1, 600);
        Check.due("too many orders", x.hangs(1), NONE);
        Check.due("the next one moves up", x.hangs(2), 100);
        x.allow(0, 30, 0);
        Check.due("none meets", x.onWall(0, 0), NONE);
        Check.due("none hangs", x.hung(0), 0);
        x.allow(0, 30, 600);
        Check.due("all as before", x.hangs(2), 200);
        x.clear(2, false);
        Check.due("in doubt again", x.hangs(2), NONE);
        Check.due("its cell is free", x.onWall(2, 0), NONE);
        x.clear(0, true);
        x.clear(0, false);
        Check.due("no copy, no doubt", x.hangs(0), 0);
    }

    private static void cells() {
        TurtleChalk x = new TurtleChalk();
        hang(x, 0, "f2 t1 f1");
        hang(x, 0, "t1 f3");
        int[][] due = {{0, 0, 1, 1, 1, 1, NONE}, {0, 0, NONE, NONE, NONE, NONE, NONE},
            {0, 0, NONE, NONE, NONE, NONE, NONE}, {NONE, NONE, NONE, NONE, NONE, NONE, NONE}};
        for (int y = 0; y < due.length; y++) {
            for (int cx = 0; cx < due[y].length; cx++) {
                Check.due("cell " + cx + ", " + y, x.onWall(cx, y), due[y][cx]);
            }
        }
        Check.due("the far cell", x.onWall(19, 19), NONE);
        for (int bad : new int[] {-1, 20, Integer.MAX_VALUE, Integer.MIN_VALUE}) {
            Check.noIndex("onWall, x " + bad, () -> x.onWall(bad, 0));
            Check.noIndex("onWall, y " + bad, () -> x.onWall(0, bad));
        }
        x.setWall(30, 5);
        Check.due("the far cell of another wall", x.onWall(29, 4), NONE);
        Check.noIndex("onWall, x 30", () -> x.onWall(30, 0));
        Check.noIndex("onWall, y 5", () -> x.onWall(0, 5));
    }

    private static void pupils() {
        TurtleChalk x = new TurtleChalk();
        hang(x, 0, "f1");
        hang(x, 5, "f2");
        hang(x, 5, "f3");
        hang(x, 3, "f9");
        int[] due = {1, 0, 0, 0, 0, 2};
        for (int pupil = 0; pupil < due.length; pupil++) {
            Check.due("hung(" + pupil + ")", x.hung(pupil), due[pupil]);
        }
        x.setWall(40, 3);
        Check.due("hung(5) on a low wall", x.hung(5), 1);
        for (int bad : new int[] {-1, 6, Integer.MAX_VALUE, Integer.MIN_VALUE}) {
            Check.noIndex("hung(" + bad + ")", () -> x.hung(bad));
        }
    }

    private static void setWall() {
        TurtleChalk x = new TurtleChalk();
        hang(x, 0, "f4");
        hang(x, 0, "t1 f4");
        Check.due("the least wall", x.setWall(1, 1), 0);
        Check.due("1 by 5", x.setWall(1, 5), 1);
        Check.due("the first hangs", x.hangs(0), 0);
        Check.due("5 by 1", x.setWall(5, 1), 1);
        Check.due("the second hangs", x.hangs(1), 0);
        Check.due("5 by 5", x.setWall(5, 5), 1);
        Check.due("5 by 6", x.setWall(5, 6), 2);
        Check.due("the second on top", x.hangs(1), 5);
        Check.due("the greatest wall", x.setWall(40, 40), 2);
        Check.due("the second beside", x.hangs(1), 100);
    }

    private static void refusals() {
        TurtleChalk x = new TurtleChalk();
        hang(x, 0, "f4");
        for (int bad : new int[] {0, -1, 41, Integer.MAX_VALUE, Integer.MIN_VALUE}) {
            Check.noArgument("setWall, width " + bad, () -> x.setWall(bad, 1));
            Check.noArgument("setWall, height " + bad, () -> x.setWall(1, bad));
        }
        Check.due("the wall stays", x.onWall(19, 19), NONE);
        Check.due("the work hangs as ever", x.hangs(0), 0);
        Check.noIndex("the width stays", () -> x.onWall(20, 0));
    }

    private static void wholeGround() {
        TurtleChalk x = new TurtleChalk();
        x.setWall(40, 40);
        String around = "pu t2 f8 t1 f8 t1 pd r4 f15 t1 e";
        int program = Script.write(x, 0, around);
        x.exercise(program, 30, 600);
        int[] due = {0, 1600, 16, 1616, NONE};
        for (int i = 0; i < due.length; i++) {
            Check.due("16 by 16, number " + i, x.hangs(x.handIn(program, 0)), due[i]);
        }
        Check.due("the last column", x.hangs(hang(x, 1, "f7 t2 f7 f7")), 3200);
        // 8 wide and 15 high: beside the column 32 only 7 columns are free, so that it hangs above.
        Check.due("above it", x.hangs(hang(x, 1, "f7 t2 f7 f7 pu f1 t3 f7 t3 f1 pd f1")), 3215);
    }
}
