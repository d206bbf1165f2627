/** Promises 1 to 12, 18 and 19, sentence by sentence: the draft, and writing it. */
public final class DraftTest {
    private static final int FAR = Integer.MAX_VALUE;
    private static final int LOW = Integer.MIN_VALUE;
    private static final int[] NO_NAMES = {-1, 4, 99, 256, FAR, LOW};
    private static final int[] NO_PUPILS = {-1, 6, 30, 256, FAR, LOW};

    /** An order of a value: forward, turn, repeat. */
    private interface Valued {
        int give(TurtleChalk x, int value, boolean isName);
    }

    /** An order of a name and a value: set, add. */
    private interface Naming {
        int give(TurtleChalk x, int name, int value, boolean isName);
    }

    public static void main(String[] args) {
        newObject();
        valued(2, TurtleChalk::forward);
        valued(3, TurtleChalk::turn);
        pen();
        naming(5, TurtleChalk::set);
        naming(6, TurtleChalk::add);
        valued(7, TurtleChalk::repeat);
        repeatOpensBlock();
        word();
        call();
        end();
        wipe();
        write();
        drafted();
        programs();
        Check.finish();
    }

    /** A draft with so many orders, none of which opens a block. */
    private static TurtleChalk drafted(int orders) {
        TurtleChalk x = new TurtleChalk();
        Script.draft(x, Script.times(orders, "t1"));
        return x;
    }

    private static void newObject() {
        Check.sentence(1, "An empty draft; no programs, exercises and works.");
        TurtleChalk x = new TurtleChalk();
        Check.due("drafted", x.drafted(), 0);
        Check.due("programs", x.programs(), 0);
        Check.due("works", x.works(), 0);
        Check.noState("no block is open", x::end);
        Check.noState("nothing to write", () -> x.write(0));
        Check.noIndex("program 0", () -> x.fault(0));
        Check.noIndex("exercise 0", () -> x.allow(0, 1, 1));
        Check.noIndex("work 0", () -> x.meets(0));
        Check.due("onWall(19, 19)", x.onWall(19, 19), TurtleChalk.NONE);
        Check.due("hung(5)", x.hung(5), 0);
        Check.due("wipe", x.wipe(), 0);
        x.forward(1, false);
        x.write(0);
        TurtleChalk other = new TurtleChalk();
        Check.due("programs of a second object", other.programs(), 0);
        Check.due("the draft of a second object", other.drafted(), 0);
    }

    // ---- promises 2, 3 and 7

    private static void valued(int promise, Valued order) {
        valueInRange(promise, order);
        valueReturns(promise, order);
        valueWithoutName(promise, order);
        valueOutOfRange(promise, order);
        valueInFullDraft(promise, order);
    }

    private static void valueInRange(int promise, Valued order) {
        Check.sentence(promise, "`value`: 0 to 99, or the number of a name");
        TurtleChalk x = new TurtleChalk();
        Check.due("0", order.give(x, 0, false), 1);
        Check.due("99", order.give(x, 99, false), 2);
        Check.due("4, which is no name", order.give(x, 4, false), 3);
        Check.due("name 0", order.give(x, 0, true), 4);
        Check.due("name 3", order.give(x, 3, true), 5);
    }

    private static void valueReturns(int promise, Valued order) {
        Check.sentence(promise, "Returns how many orders the draft has then.");
        TurtleChalk x = new TurtleChalk();
        for (int i = 1; i <= 30; i++) {
            Check.due("order " + i, order.give(x, i % 4, i % 2 == 0), i);
        }
        x.wipe();
        Check.due("the first after wipe", order.give(x, 1, false), 1);
    }

    private static void valueWithoutName(int promise, Valued order) {
        Check.sentence(promise, "Throws `IndexOutOfBoundsException` if there is no such name");
        TurtleChalk x = new TurtleChalk();
        for (int name : NO_NAMES) {
            Check.noIndex("name " + name, () -> order.give(x, name, true));
        }
        Check.due("drafted", x.drafted(), 0);
        Check.noState("no block is open", x::end);
    }

    private static void valueOutOfRange(int promise, Valued order) {
        Check.sentence(promise, "Throws `IllegalArgumentException` if value is out of range");
        TurtleChalk x = new TurtleChalk();
        for (int value : new int[] {-1, -99, 100, 256, FAR, LOW}) {
            Check.noArgument("value " + value, () -> order.give(x, value, false));
        }
        Check.due("drafted", x.drafted(), 0);
        Check.noState("no block is open", x::end);
    }

    private static void valueInFullDraft(int promise, Valued order) {
        Check.sentence(promise, "Throws `IllegalStateException` if it has 30 orders");
        TurtleChalk x = drafted(29);
        Check.due("the 30th", order.give(x, 1, false), 30);
        Check.noState("the 31st", () -> order.give(x, 1, false));
        Check.noState("the 31st, of a name", () -> order.give(x, 1, true));
        Check.noState("the 31st, of the least value", () -> order.give(x, 0, false));
        Check.due("drafted", x.drafted(), 30);
        x.wipe();
        Check.due("after wipe", order.give(x, 1, false), 1);
    }

    private static void repeatOpensBlock() {
        Check.sentence(7, "Adds an order that repeats a block, which begins there.");
        TurtleChalk x = new TurtleChalk();
        x.repeat(0, false);
        Check.noState("it is open", () -> x.write(0));
        Check.due("its end", x.end(), 0);
        Check.due("one without orders in it", x.write(0), 0);
    }

    // ---- promises 4, 5 and 6

    private static void pen() {
        Check.sentence(4, "Returns how many orders the draft has then.");
        TurtleChalk x = new TurtleChalk();
        for (int i = 1; i <= 30; i++) {
            Check.due("order " + i, x.pen(i % 3 == 0), i);
        }
        Check.sentence(4, "Throws `IllegalStateException` if it has 30 orders");
        Check.noState("the 31st, down", () -> x.pen(true));
        Check.noState("the 31st, up", () -> x.pen(false));
        Check.due("drafted", x.drafted(), 30);
        Check.due("the 30th", drafted(29).pen(true), 30);
    }

    private static void naming(int promise, Naming order) {
        namingInRange(promise, order);
        namingReturns(promise, order);
        namingWithoutName(promise, order);
        namingOutOfRange(promise, order);
        namingInFullDraft(promise, order);
    }

    private static void namingInRange(int promise, Naming order) {
        Check.sentence(promise, "`name`: 0 to 3");
        TurtleChalk x = new TurtleChalk();
        Check.due("0", order.give(x, 0, 1, false), 1);
        Check.due("3", order.give(x, 3, 1, false), 2);
        Check.sentence(promise, "`value`: -99 to 99, or the number of a name");
        Check.due("-99", order.give(x, 0, -99, false), 3);
        Check.due("99", order.give(x, 3, 99, false), 4);
        Check.due("0", order.give(x, 1, 0, false), 5);
        Check.due("name 0", order.give(x, 0, 0, true), 6);
        Check.due("name 3", order.give(x, 2, 3, true), 7);
    }

    private static void namingReturns(int promise, Naming order) {
        Check.sentence(promise, "Returns how many orders the draft has then.");
        TurtleChalk x = new TurtleChalk();
        for (int i = 1; i <= 30; i++) {
            Check.due("order " + i, order.give(x, i % 4, i % 3, i % 2 == 0), i);
        }
        x.wipe();
        Check.due("the first after wipe", order.give(x, 1, 1, false), 1);
    }

    private static void namingWithoutName(int promise, Naming order) {
        Check.sentence(promise, "Throws `IndexOutOfBoundsException` if there is no such name, of either");
        TurtleChalk x = new TurtleChalk();
        for (int bad : NO_NAMES) {
            Check.noIndex("name " + bad, () -> order.give(x, bad, 0, false));
            Check.noIndex("name " + bad + " and a name", () -> order.give(x, bad, 0, true));
            Check.noIndex("value of name " + bad, () -> order.give(x, 0, bad, true));
            Check.noIndex("both " + bad, () -> order.give(x, bad, bad, true));
        }
        Check.due("drafted", x.drafted(), 0);
    }

    private static void namingOutOfRange(int promise, Naming order) {
        Check.sentence(promise, "Throws `IllegalArgumentException` if value is out of range");
        TurtleChalk x = new TurtleChalk();
        for (int value : new int[] {-100, 100, -256, 256, 999, FAR, LOW}) {
            Check.noArgument("value " + value, () -> order.give(x, 3, value, false));
        }
        Check.due("drafted", x.drafted(), 0);
    }

    private static void namingInFullDraft(int promise, Naming order) {
        Check.sentence(promise, "Throws `IllegalStateException` if it has 30 orders");
        TurtleChalk x = drafted(29);
        Check.due("the 30th", order.give(x, 0, -1, false), 30);
        Check.noState("the 31st", () -> order.give(x, 0, -1, false));
        Check.noState("the 31st, of a name", () -> order.give(x, 3, 3, true));
        Check.due("drafted", x.drafted(), 30);
    }

    // ---- promise 8

    private static void word() {
        wordNumbers();
        wordInFullDraft();
        wordInBlock();
        wordTwice();
        blocksOfWords();
    }

    private static void wordNumbers() {
        Check.sentence(8, "`word`: 0 to 3");
        TurtleChalk x = new TurtleChalk();
        Script.draft(x, "w0 e w3 e w1 e w2 e");
        Check.due("all four", x.drafted(), 8);
        Check.sentence(8, "Returns how many orders the draft has then.");
        TurtleChalk other = new TurtleChalk();
        Check.due("the first order", other.word(2), 1);
        other.end();
        Check.due("the third order", other.word(0), 3);
        Check.sentence(8, "Throws `IndexOutOfBoundsException` if there is no such word");
        for (int bad : NO_NAMES) {
            Check.noIndex("word " + bad, () -> new TurtleChalk().word(bad));
        }
    }

    private static void wordInFullDraft() {
        Check.sentence(8, "Throws `IllegalStateException` if it has 30 orders");
        TurtleChalk x = drafted(29);
        Check.due("the 30th", x.word(0), 30);
        TurtleChalk full = drafted(30);
        Check.noState("the 31st", () -> full.word(0));
        Check.due("drafted", full.drafted(), 30);
        Check.due("no block is open", full.write(0), 0);
    }

    private static void wordInBlock() {
        Check.sentence(8, "a block is open");
        TurtleChalk x = new TurtleChalk();
        x.word(0);
        Check.noState("in a word", () -> x.word(1));
        x.repeat(2, false);
        Check.noState("in a repeat in a word", () -> x.word(1));
        x.end();
        Check.noState("behind a repeat in a word", () -> x.word(1));
        x.end();
        Check.due("behind the word", x.word(1), 5);
        x.end();
        x.repeat(1, false);
        Check.noState("in a repeat", () -> x.word(2));
        x.end();
        Check.due("behind the repeat", x.word(2), 9);
        x.wipe();
        Check.due("the block is gone with wipe", x.word(3), 1);
    }

    private static void wordTwice() {
        Check.sentence(8, "or the word has a block");
        TurtleChalk x = new TurtleChalk();
        Script.draft(x, "w0 e");
        Check.noState("again", () -> x.word(0));
        Script.draft(x, "w1 f1 e t1");
        Check.noState("again, later", () -> x.word(0));
        Check.noState("the second one again", () -> x.word(1));
        Check.due("drafted", x.drafted(), 6);
        x.wipe();
        Check.due("after wipe", x.word(0), 1);
        x.end();
        x.write(0);
        Check.due("after write", x.word(0), 1);
        TurtleChalk called = new TurtleChalk();
        called.call(0);
        Check.due("a call is no block", called.word(0), 2);
    }

    private static void blocksOfWords() {
        Check.terms(8, "Blocks of own words are in no other block; a word has at most one.");
        TurtleChalk x = new TurtleChalk();
        Script.draft(x, "r2 r2 e");
        Check.noState("in the outer block", () -> x.word(0));
        x.end();
        Check.due("in none", x.word(0), 5);
        Check.noState("in its own", () -> x.word(0));
        Check.noState("in that of another word", () -> x.word(3));
        x.end();
        Check.noState("a second one", () -> x.word(0));
        Check.due("one for another word", x.word(3), 7);
        x.end();
        Check.due("written", x.write(0), 0);
    }

    // ---- promises 9 and 10

    private static void call() {
        Check.sentence(9, "`word`: 0 to 3");
        TurtleChalk x = new TurtleChalk();
        Check.due("0, which has no block", x.call(0), 1);
        Check.due("3", x.call(3), 2);
        Check.sentence(9, "Throws `IndexOutOfBoundsException` if there is no such word");
        for (int bad : NO_NAMES) {
            Check.noIndex("word " + bad, () -> x.call(bad));
        }
        Check.due("drafted", x.drafted(), 2);
        Check.sentence(9, "Returns how many orders the draft has then.");
        for (int i = 3; i <= 30; i++) {
            Check.due("order " + i, x.call(i % 4), i);
        }
        Check.sentence(9, "Throws `IllegalStateException` if it has 30 orders");
        Check.noState("the 31st", () -> x.call(0));
        Check.due("drafted", x.drafted(), 30);
        Check.due("the 30th", drafted(29).call(1), 30);
    }

    private static void end() {
        endReturns();
        endWithoutBlock();
        endInFullDraft();
    }

    private static void endReturns() {
        Check.sentence(10, "Returns how many blocks are open then.");
        TurtleChalk x = new TurtleChalk();
        Script.draft(x, "w0 r1 r2 r3");
        Check.due("of four", x.end(), 3);
        Check.due("of three", x.end(), 2);
        x.repeat(1, false);
        Check.due("of three again", x.end(), 2);
        Check.due("of two", x.end(), 1);
        Check.due("of one", x.end(), 0);
        TurtleChalk deepest = new TurtleChalk();
        Script.draft(deepest, Script.times(15, "r1"));
        for (int open = 14; open >= 0; open--) {
            Check.due("of " + (open + 1) + " in a full draft", deepest.end(), open);
        }
        Check.sentence(10, "Adds the end of the block that was opened last.");
        Check.due("drafted", deepest.drafted(), 30);
        Check.due("an end is an order", x.drafted(), 10);
    }

    private static void endWithoutBlock() {
        Check.sentence(10, "Throws `IllegalStateException` if none is open");
        TurtleChalk x = new TurtleChalk();
        Check.noState("an empty draft", x::end);
        x.forward(1, false);
        Check.noState("no block yet", x::end);
        Script.draft(x, "r2 e");
        Check.noState("none any more", x::end);
        Script.draft(x, "w2 e");
        Check.noState("no word any more", x::end);
        Check.due("drafted", x.drafted(), 5);
        x.repeat(1, false);
        x.wipe();
        Check.noState("none after wipe", x::end);
        x.turn(1, false);
        x.write(0);
        Check.noState("none after write", x::end);
    }

    private static void endInFullDraft() {
        Check.sentence(10, "or it has 30 orders");
        TurtleChalk x = drafted(28);
        x.repeat(2, false);
        Check.due("the 30th", x.end(), 0);
        TurtleChalk open = drafted(29);
        open.repeat(2, false);
        Check.noState("the 31st", open::end);
        Check.due("drafted", open.drafted(), 30);
        Check.noState("the block stays open", () -> open.write(0));
    }

    // ---- promises 11 and 12

    private static void wipe() {
        Check.sentence(11, "Returns how many orders it had.");
        Check.due("of none", new TurtleChalk().wipe(), 0);
        Check.due("of 30", drafted(30).wipe(), 30);
        TurtleChalk x = new TurtleChalk();
        Script.draft(x, "f1 t1 r3");
        Check.due("of three, a block open", x.wipe(), 3);
        Check.sentence(11, "Empties the draft.");
        Check.due("drafted", x.drafted(), 0);
        Check.due("wipe again", x.wipe(), 0);
        Check.due("programs", x.programs(), 0);
        Check.due("the next order is the first", x.pen(true), 1);
        Check.due("no block is open", x.write(0), 0);
        Check.due("one order", x.steps(0), 1);
        Script.draft(x, "w0 f1 e c0");
        x.wipe();
        Check.due("words go too", Script.write(x, 0, "c0"), 1);
        Check.due("the word has no block", x.fault(1), TurtleChalk.UNKNOWN);
        Check.due("a written program stays", x.steps(0), 1);
    }

    private static void write() {
        writeNumbers();
        writeEmpties();
        writePupils();
        writeNothing();
        writeOpen();
        writeTheThirtyFirst();
    }

    private static void writeNumbers() {
        Check.sentence(12, "Returns the number of the program, from 0 on.");
        TurtleChalk x = new TurtleChalk();
        for (int i = 0; i < 30; i++) {
            Script.draft(x, Script.times(i + 1, "t1"));
            Check.due("program " + i, x.write(i % 6), i);
        }
        Check.due("the steps of the first", x.steps(0), 1);
        Check.due("the steps of the last", x.steps(29), 30);
    }

    private static void writeEmpties() {
        Check.sentence(12, "Writes the draft as a program, and empties it.");
        TurtleChalk x = new TurtleChalk();
        Script.write(x, 0, "w0 f2 e c0");
        Check.due("drafted", x.drafted(), 0);
        Check.due("wipe", x.wipe(), 0);
        Check.due("it is kept", x.strokes(0), 2);
        Script.write(x, 0, "t1 f1");
        Check.due("the next one begins anew", x.steps(1), 3);
        Check.due("the first stays", x.strokes(0), 2);
        Script.write(x, 0, "c0");
        Check.due("words belong to their program", x.fault(2), TurtleChalk.UNKNOWN);
    }

    private static void writePupils() {
        Check.sentence(12, "`pupil`: 0 to 5");
        TurtleChalk x = drafted(1);
        Check.due("pupil 0", x.write(0), 0);
        x.turn(1, false);
        Check.due("pupil 5", x.write(5), 1);
        Check.sentence(12, "Throws `IndexOutOfBoundsException` if there is no such pupil");
        x.turn(1, false);
        for (int pupil : NO_PUPILS) {
            Check.noIndex("pupil " + pupil, () -> x.write(pupil));
        }
        Check.due("programs", x.programs(), 2);
        Check.due("drafted", x.drafted(), 1);
    }

    private static void writeNothing() {
        Check.sentence(12, "Throws `IllegalStateException` if the draft is empty");
        TurtleChalk x = new TurtleChalk();
        Check.noState("at first", () -> x.write(0));
        Script.write(x, 0, "t1");
        Check.noState("after write", () -> x.write(0));
        x.turn(1, false);
        x.wipe();
        Check.noState("after wipe", () -> x.write(0));
        Check.due("programs", x.programs(), 1);
    }

    private static void writeOpen() {
        Check.sentence(12, "a block is open");
        TurtleChalk x = new TurtleChalk();
        x.repeat(2, false);
        Check.noState("a repeat", () -> x.write(0));
        x.repeat(2, false);
        x.end();
        Check.noState("the outer one of two", () -> x.write(0));
        x.end();
        x.word(2);
        Check.noState("a word", () -> x.write(0));
        Check.due("the draft stays", x.drafted(), 5);
        x.end();
        Check.due("none", x.write(5), 0);
    }

    private static void writeTheThirtyFirst() {
        Check.sentence(12, "or there are 30 programs");
        TurtleChalk x = new TurtleChalk();
        for (int i = 0; i < 29; i++) {
            Script.write(x, 0, "t1");
        }
        Check.due("the 30th", Script.write(x, 0, "t1"), 29);
        x.turn(1, false);
        Check.noState("the 31st", () -> x.write(0));
        Check.due("the draft stays", x.drafted(), 1);
        Check.due("programs", x.programs(), 30);
        Check.noIndex("program 30", () -> x.steps(30));
    }

    // ---- promises 18 and 19

    private static void drafted() {
        Check.sentence(18, "Returns how many orders the draft has.");
        TurtleChalk x = new TurtleChalk();
        Check.due("none", x.drafted(), 0);
        for (int i = 1; i <= 30; i++) {
            x.turn(1, false);
            Check.due("after order " + i, x.drafted(), i);
        }
        Check.noState("the 31st", () -> x.turn(1, false));
        Check.due("after the 31st", x.drafted(), 30);
        x.write(0);
        Check.due("after write", x.drafted(), 0);
    }

    private static void programs() {
        Check.sentence(19, "Returns how many programs there are.");
        TurtleChalk x = new TurtleChalk();
        Check.due("none", x.programs(), 0);
        for (int i = 1; i <= 30; i++) {
            x.turn(1, false);
            Check.due("ahead of write " + i, x.programs(), i - 1);
            x.write(0);
            Check.due("after write " + i, x.programs(), i);
        }
    }
}
