/** Promises 1 to 12, 18 and 19: the draft, and writing it. */
public final class DraftTest {
    private static final int FAR = Integer.MAX_VALUE;
    private static final int LOW = Integer.MIN_VALUE;

    public static void main(String[] args) {
        newObject();
        forward();
        turn();
        pen();
        set();
        add();
        repeat();
        word();
        call();
        end();
        wipe();
        write();
        writeRefuses();
        fullDraft();
        Check.finish();
    }

    private static void newObject() {
        TurtleChalk x = new TurtleChalk();
        Check.due("new: drafted", x.drafted(), 0);
        Check.due("new: programs", x.programs(), 0);
        Check.due("new: works", x.works(), 0);
        Check.noIndex("new: fault(0)", () -> x.fault(0));
        Check.noIndex("new: exercise 0", () -> x.allow(0, 1, 1));
        Check.noIndex("new: work 0", () -> x.meets(0));
        Check.due("new: onWall(19, 19)", x.onWall(19, 19), TurtleChalk.NONE);
        Check.due("new: hung(5)", x.hung(5), 0);
        Check.due("new: wipe", x.wipe(), 0);
    }

    private static void forward() {
        TurtleChalk x = new TurtleChalk();
        Check.due("forward(0)", x.forward(0, false), 1);
        Check.due("forward(99)", x.forward(99, false), 2);
        Check.due("forward(name 0)", x.forward(0, true), 3);
        Check.due("forward(name 3)", x.forward(3, true), 4);
        for (int value : new int[] {-1, 100, FAR, LOW}) {
            Check.noArgument("forward(" + value + ")", () -> x.forward(value, false));
        }
        for (int name : new int[] {-1, 4, FAR, LOW}) {
            Check.noIndex("forward(name " + name + ")", () -> x.forward(name, true));
        }
        Check.due("forward: drafted", x.drafted(), 4);
    }

    private static void turn() {
        TurtleChalk x = new TurtleChalk();
        Check.due("turn(0)", x.turn(0, false), 1);
        Check.due("turn(99)", x.turn(99, false), 2);
        Check.due("turn(name 3)", x.turn(3, true), 3);
        for (int value : new int[] {-1, 100, FAR, LOW}) {
            Check.noArgument("turn(" + value + ")", () -> x.turn(value, false));
        }
        for (int name : new int[] {-1, 4, FAR, LOW}) {
            Check.noIndex("turn(name " + name + ")", () -> x.turn(name, true));
        }
        Check.due("turn: drafted", x.drafted(), 3);
    }

    private static void pen() {
        TurtleChalk x = new TurtleChalk();
        Check.due("pen(false)", x.pen(false), 1);
        Check.due("pen(true)", x.pen(true), 2);
        Check.due("pen: drafted", x.drafted(), 2);
    }

    private static void set() {
        TurtleChalk x = new TurtleChalk();
        Check.due("set(0, -99)", x.set(0, -99, false), 1);
        Check.due("set(3, 99)", x.set(3, 99, false), 2);
        Check.due("set(3, name 3)", x.set(3, 3, true), 3);
        for (int bad : new int[] {-1, 4, FAR, LOW}) {
            Check.noIndex("set(" + bad + ", 0)", () -> x.set(bad, 0, false));
            Check.noIndex("set(0, name " + bad + ")", () -> x.set(0, bad, true));
        }
        for (int value : new int[] {-100, 100, FAR, LOW}) {
            Check.noArgument("set(0, " + value + ")", () -> x.set(0, value, false));
        }
        Check.noIndex("set: the name goes first", () -> x.set(4, 100, false));
        Check.due("set: drafted", x.drafted(), 3);
    }

    private static void add() {
        TurtleChalk x = new TurtleChalk();
        Check.due("add(0, -99)", x.add(0, -99, false), 1);
        Check.due("add(3, 99)", x.add(3, 99, false), 2);
        Check.due("add(3, name 3)", x.add(3, 3, true), 3);
        for (int bad : new int[] {-1, 4, FAR, LOW}) {
            Check.noIndex("add(" + bad + ", 0)", () -> x.add(bad, 0, false));
            Check.noIndex("add(0, name " + bad + ")", () -> x.add(0, bad, true));
        }
        for (int value : new int[] {-100, 100, FAR, LOW}) {
            Check.noArgument("add(0, " + value + ")", () -> x.add(0, value, false));
        }
        Check.noIndex("add: the name goes first", () -> x.add(-1, -100, false));
        Check.due("add: drafted", x.drafted(), 3);
    }

    private static void repeat() {
        TurtleChalk x = new TurtleChalk();
        Check.due("repeat(0)", x.repeat(0, false), 1);
        Check.due("repeat(99)", x.repeat(99, false), 2);
        Check.due("repeat(name 3)", x.repeat(3, true), 3);
        for (int value : new int[] {-1, 100, FAR, LOW}) {
            Check.noArgument("repeat(" + value + ")", () -> x.repeat(value, false));
        }
        for (int name : new int[] {-1, 4, FAR, LOW}) {
            Check.noIndex("repeat(name " + name + ")", () -> x.repeat(name, true));
        }
        Check.due("repeat: a refused one opens nothing", x.end(), 2);
    }

    private static void word() {
        TurtleChalk x = new TurtleChalk();
        Check.due("word(0)", x.word(0), 1);
        Check.noState("word(1) in a word", () -> x.word(1));
        Check.noIndex("word: no such word goes first", () -> x.word(4));
        Check.due("word: repeat in a word", x.repeat(2, false), 2);
        Check.due("word: end of the repeat", x.end(), 1);
        Check.due("word: end of the word", x.end(), 0);
        Check.noState("word(0) again", () -> x.word(0));
        x.repeat(1, false);
        Check.noState("word(1) in a repeat", () -> x.word(1));
        x.end();
        Check.due("word(3)", x.word(3), 7);
        x.end();
        for (int word : new int[] {-1, 4, FAR, LOW}) {
            Check.noIndex("word(" + word + ")", () -> x.word(word));
        }
        Check.due("word: drafted", x.drafted(), 8);
        x.wipe();
        Check.due("word(0) after wipe", x.word(0), 1);
        x.end();
        x.write(0);
        Check.due("word(0) after write", x.word(0), 1);
    }

    private static void call() {
        TurtleChalk x = new TurtleChalk();
        Check.due("call(0)", x.call(0), 1);
        Check.due("call(3)", x.call(3), 2);
        for (int word : new int[] {-1, 4, FAR, LOW}) {
            Check.noIndex("call(" + word + ")", () -> x.call(word));
        }
        Check.due("call: drafted", x.drafted(), 2);
    }

    private static void end() {
        TurtleChalk x = new TurtleChalk();
        Check.noState("end: none open", x::end);
        Script.draft(x, "r1 r2 r3");
        Check.due("end of the third", x.end(), 2);
        Check.due("end of the second", x.end(), 1);
        Check.due("end of the first", x.end(), 0);
        Check.noState("end: none open any more", x::end);
        Check.due("end: drafted", x.drafted(), 6);
        x.repeat(1, false);
        x.wipe();
        Check.noState("end: none open after wipe", x::end);
    }

    private static void wipe() {
        TurtleChalk x = new TurtleChalk();
        Script.draft(x, "f1 t1 r3");
        Check.due("wipe", x.wipe(), 3);
        Check.due("wipe: drafted", x.drafted(), 0);
        Check.due("wipe again", x.wipe(), 0);
        Check.due("wipe: no program", x.programs(), 0);
        Check.due("wipe: the next is the first", x.pen(true), 1);
        Check.due("wipe: no block is open", x.write(0), 0);
        Check.due("wipe: one order", x.steps(0), 1);
    }

    private static void write() {
        TurtleChalk x = new TurtleChalk();
        for (int i = 0; i < 30; i++) {
            x.turn(i, false);
            Check.due("write " + i, x.write(i % 6), i);
            Check.due("write: drafted", x.drafted(), 0);
            Check.due("write: programs", x.programs(), i + 1);
        }
        x.turn(1, false);
        Check.noState("write: there are 30", () -> x.write(0));
        Check.noIndex("write: the pupil goes first", () -> x.write(6));
        Check.due("write: the draft stays", x.drafted(), 1);
        Check.due("write: programs stay", x.programs(), 30);
    }

    private static void writeRefuses() {
        TurtleChalk x = new TurtleChalk();
        Check.noState("write: empty", () -> x.write(0));
        for (int pupil : new int[] {-1, 6, FAR, LOW}) {
            Check.noIndex("write(" + pupil + ")", () -> x.write(pupil));
        }
        x.repeat(2, false);
        Check.noState("write: a repeat is open", () -> x.write(0));
        x.end();
        x.word(2);
        Check.noState("write: a word is open", () -> x.write(0));
        x.end();
        Check.due("write: all closed", x.write(5), 0);
    }

    private static void fullDraft() {
        TurtleChalk x = new TurtleChalk();
        Check.due("28 orders and a repeat", Script.draft(x, Script.times(28, "t1") + " r2"), 29);
        Check.due("the 30th", x.forward(1, false), 30);
        Check.noState("full: forward", () -> x.forward(1, false));
        Check.noState("full: turn", () -> x.turn(1, false));
        Check.noState("full: pen", () -> x.pen(true));
        Check.noState("full: set", () -> x.set(0, 1, false));
        Check.noState("full: add", () -> x.add(0, 1, false));
        Check.noState("full: repeat", () -> x.repeat(1, false));
        Check.noState("full: word", () -> x.word(0));
        Check.noState("full: call", () -> x.call(0));
        Check.noState("full: end", x::end);
        Check.noIndex("full: the name goes first", () -> x.forward(4, true));
        Check.noArgument("full: the value goes first", () -> x.turn(100, false));
        Check.noIndex("full: set's name goes first", () -> x.set(4, 0, false));
        Check.noArgument("full: add's value goes first", () -> x.add(0, -100, false));
        Check.noArgument("full: repeat's value goes first", () -> x.repeat(-1, false));
        Check.noIndex("full: word's number goes first", () -> x.word(-1));
        Check.noIndex("full: call's number goes first", () -> x.call(4));
        Check.due("full: drafted", x.drafted(), 30);
        Check.noState("full: the block is open", () -> x.write(0));
        Check.due("full: wipe", x.wipe(), 30);
        Script.draft(x, Script.times(30, "t1"));
        Check.noState("30 and none open: word", () -> x.word(0));
        Check.due("30 orders make a program", x.write(0), 0);
        Check.due("30 steps", x.steps(0), 30);
    }
}
