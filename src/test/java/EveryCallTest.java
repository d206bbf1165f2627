import java.util.ArrayList;
import java.util.List;
import java.util.function.Consumer;
import java.util.function.LongSupplier;

/**
 * What holds for every call, promise by promise: the first and the last number that it takes, which exception
 * goes first, that a refused call and a question change nothing, and that an object is good for 512 calls.
 */
public final class EveryCallTest {
    private static final String FIRST = "If several apply, the one that the throws clause names first is thrown.";
    private static final String NOTHING = "A call that throws an exception changes nothing.";
    private static final int FAR = Integer.MAX_VALUE;
    private static final int LOW = Integer.MIN_VALUE;

    public static void main(String[] args) {
        firstAndLastProgram();
        firstAndLastOfTwoPrograms();
        firstAndLastExercise();
        firstAndLastWork();
        firstOfOrders();
        firstOfWords();
        firstOfWrite();
        firstOfExercises();
        firstOfAsked();
        draftAfterRefusals();
        fullDraftAfterRefusals();
        writeAfterRefusals();
        exercisesAfterRefusals();
        worksAfterRefusals();
        wallAfterRefusals();
        askedRefusals();
        questions();
        lastCall();
        Check.finish();
    }

    // ---- objects in some state, and a look at all of it

    /** Programs, two exercises, four works (one a copy in doubt, one cleared), and a draft with two open blocks. */
    private static TurtleChalk inUse() {
        TurtleChalk x = new TurtleChalk();
        Script.write(x, 0, "r4 f2 t1 e");
        Script.write(x, 1, "r4 f2 t1 e");
        Script.write(x, 2, "s0=2 r4 fn0 t1 e");
        x.setWall(9, 8);
        x.exercise(0, 10, 50);
        x.exercise(2, 4, 17);
        x.handIn(0, 0);
        x.handIn(1, 0);
        x.handIn(2, 0);
        x.handIn(1, 1);
        x.clear(1, true);
        Script.draft(x, "w1 f1 e a2=2 w3 f1 r2 t1");
        return x;
    }

    /** As many programs, exercises, works and orders as there can be; the last order opened a block. */
    private static TurtleChalk full() {
        TurtleChalk x = new TurtleChalk();
        for (int i = 0; i < 30; i++) {
            Script.write(x, i % 6, "f" + (i / 2 % 4) + " t1");
        }
        for (int i = 0; i < 6; i++) {
            x.exercise(i, 2, 3 + i / 2);
        }
        for (int i = 0; i < 24; i++) {
            x.handIn(i, i % 6);
        }
        Script.draft(x, Script.times(29, "t1") + " r2");
        return x;
    }

    /** Full but for the draft, which could be written if there were less than 30 programs. */
    private static TurtleChalk fullButDraft() {
        TurtleChalk x = full();
        x.wipe();
        Script.draft(x, "w0 e f1");
        return x;
    }

    private static long answer(LongSupplier call) {
        try {
            return call.getAsLong();
        } catch (IndexOutOfBoundsException e) {
            return -1001;
        } catch (IllegalArgumentException e) {
            return -1002;
        } catch (IllegalStateException e) {
            return -1003;
        }
    }

    /**
     * Much of what can be asked, and then what calls answer that go on from there: under 300 calls, so that
     * the fullest object is looked at within its 512.
     */
    private static List<Long> look(TurtleChalk x) {
        List<Long> all = new ArrayList<>();
        ask(x, all);
        goOn(x, all);
        return all;
    }

    private static void ask(TurtleChalk x, List<Long> all) {
        int programs = x.programs();
        int works = x.works();
        all.add((long) x.drafted());
        all.add((long) programs);
        all.add((long) works);
        for (int i = 0; i < programs; i++) {
            all.add((long) x.fault(i));
            all.add((long) x.steps(i));
            all.add((long) x.strokes(i));
        }
        for (int i = 0; i < works; i++) {
            all.add(x.meets(i) ? 1L : 0L);
            all.add((long) x.copyOf(i));
            all.add((long) x.hangs(i));
        }
        for (int i = 0; i < 6; i++) {
            all.add((long) x.hung(i));
        }
        for (int place : new int[] {0, 1, 2, 3, 7, 8, 9, 19, 20}) {
            all.add(answer(() -> x.onWall(place, 0)));
            all.add(answer(() -> x.onWall(0, place)));
        }
    }

    private static void goOn(TurtleChalk x, List<Long> all) {
        for (int i = 0; i < 3; i++) {
            all.add(answer(() -> x.end()));
        }
        for (int i = 0; i < 4; i++) {
            int word = i;
            all.add(answer(() -> x.word(word)));
            all.add(answer(() -> x.end()));
        }
        all.add(answer(() -> x.call(1)));
        all.add(answer(() -> x.forward(2, true)));
        all.add(answer(() -> x.write(3)));
        int last = x.programs() - 1;
        all.add(answer(() -> x.steps(last)));
        all.add(answer(() -> x.strokes(last)));
        int works = x.works();
        for (int i = 0; i < works; i++) {
            all.add(x.clear(i, i % 2 == 0) ? 1L : 0L);
            all.add((long) x.hangs(i));
        }
        for (int i = 0; i < 7; i++) {
            int exercise = i;
            all.add(answer(() -> x.allow(exercise, 4, 17)));
        }
        all.add(answer(() -> x.exercise(0, 1, 0)));
        all.add(answer(() -> x.handIn(0, 1)));
        all.add(answer(() -> x.setWall(12, 12)));
        all.add((long) x.wipe());
    }

    private interface State {
        TurtleChalk made();
    }

    /** After the calls, each of which is refused, all is as without them. */
    private static void unchanged(String what, State state, Consumer<TurtleChalk> refused) {
        TurtleChalk x = state.made();
        refused.accept(x);
        sameLook(what, x, state.made());
    }

    private static void sameLook(String what, TurtleChalk x, TurtleChalk other) {
        List<Long> found = look(x);
        List<Long> due = look(other);
        for (int i = 0; i < due.size(); i++) {
            Check.due(what + ": answer " + i + " of all", found.get(i), due.get(i));
        }
    }

    // ---- the first and the last number

    /** The first of 30 programs is "f0 t1", the last two are "f2 t1". */
    private static void firstAndLastProgram() {
        TurtleChalk x = full();
        Check.sentence(20, "`program`: its number");
        Check.due("the first", x.fault(0), TurtleChalk.FINE);
        Check.due("the last", x.fault(29), TurtleChalk.FINE);
        Check.sentence(21, "`program`: its number");
        Check.due("the first", x.steps(0), 2);
        Check.due("the last", x.steps(29), 4);
        Check.sentence(22, "`program`: its number");
        Check.due("the first", x.strokes(0), 0);
        Check.due("the last", x.strokes(29), 2);
        Check.sentence(23, "`program`: its number");
        Check.due("the first", x.strokesBySteps(0, 2), 0);
        Check.due("the last", x.strokesBySteps(29, 2), 1);
        Check.sentence(24, "`program`: its number");
        Check.due("the first", x.isDrawn(0, 8, 9, true), false);
        Check.due("the last", x.isDrawn(29, 8, 9, true), true);
    }

    private static void firstAndLastOfTwoPrograms() {
        TurtleChalk x = full();
        Check.sentence(25, "`one`: the number of a program");
        Check.due("the first and the last", x.areAlike(0, 29), false);
        Check.due("the last and the last but one", x.areAlike(29, 28), true);
        Check.sentence(25, "`other`: the number of a program");
        Check.due("the last and the first", x.areAlike(29, 0), false);
        Check.due("the last but one and the last", x.areAlike(28, 29), true);
        Check.sentence(26, "`one`: the number of a program");
        Check.due("the first and the last", x.haveOneForm(0, 29), false);
        Check.due("the last and the last but one", x.haveOneForm(29, 28), true);
        Check.sentence(26, "`other`: the number of a program");
        Check.due("the last and the first", x.haveOneForm(29, 0), false);
        Check.due("the last but one and the last", x.haveOneForm(28, 29), true);
        Check.sentence(27, "`one`: the number of a program");
        Check.due("the first and the last", x.likeness(0, 29), 50);
        Check.due("the last and the last but one", x.likeness(29, 28), 100);
        Check.sentence(27, "`other`: the number of a program");
        Check.due("the last and the first", x.likeness(29, 0), 50);
        Check.due("the last but one and the last", x.likeness(28, 29), 100);
    }

    private static void firstAndLastExercise() {
        TurtleChalk x = full();
        Check.sentence(14, "`exercise`: its number");
        Check.due("the first", x.allow(0, 30, 600), 1);
        Check.due("the last", x.allow(5, 30, 600), 1);
        TurtleChalk other = new TurtleChalk();
        for (int i = 0; i < 30; i++) {
            Script.write(other, 0, "f" + i % 7);
        }
        Check.sentence(13, "`program`: the number of the program whose drawing is wanted");
        for (int i = 0; i < 6; i++) {
            Check.due("of the last", other.exercise(29 - i, 30, 600), i);
        }
        Check.sentence(15, "`program`: its number");
        Check.due("the first", other.handIn(0, 0), 0);
        Check.due("the last", other.handIn(29, 0), 1);
        Check.due("the first, for another drawing", other.meets(0), false);
        Check.due("the last, for its own drawing", other.meets(1), true);
        Check.sentence(15, "`exercise`: the number of the exercise");
        Check.due("the last, of program 24", other.handIn(24, 5), 2);
        Check.due("for its own drawing", other.meets(2), true);
    }

    private static void firstAndLastWork() {
        TurtleChalk x = full();
        Check.sentence(29, "`work`: its number");
        Check.due("the first", x.meets(0), true);
        Check.due("the last", x.meets(23), false);
        Check.sentence(30, "`work`: its number");
        Check.due("the first", x.copyOf(0), TurtleChalk.NONE);
        Check.due("the last", x.copyOf(23), TurtleChalk.NONE);
        Check.sentence(31, "`work`: its number");
        Check.due("the first", x.hangs(0), 0);
        Check.due("the last", x.hangs(23), TurtleChalk.NONE);
        Check.sentence(16, "`work`: its number");
        Check.due("the first", x.clear(0, true), false);
        Check.due("the last", x.clear(23, true), false);
        Check.due("the first, once more", x.clear(0, false), true);
        Check.due("the last, once more", x.clear(23, false), true);
    }

    // ---- which exception goes first

    private static void firstOfOrders() {
        TurtleChalk x = full();
        Check.terms(2, FIRST);
        Check.noIndex("no such name, and 30 orders", () -> x.forward(4, true));
        Check.noArgument("out of range, and 30 orders", () -> x.forward(100, false));
        Check.noState("30 orders", () -> x.forward(4, false));
        Check.terms(3, FIRST);
        Check.noIndex("no such name, and 30 orders", () -> x.turn(-1, true));
        Check.noArgument("out of range, and 30 orders", () -> x.turn(-1, false));
        Check.noState("30 orders", () -> x.turn(4, false));
        Check.terms(7, FIRST);
        Check.noIndex("no such name, and 30 orders", () -> x.repeat(100, true));
        Check.noArgument("out of range, and 30 orders", () -> x.repeat(100, false));
        Check.noState("30 orders", () -> x.repeat(4, false));
        Check.terms(5, FIRST);
        Check.noIndex("no such name, out of range, and 30 orders", () -> x.set(4, 100, false));
        Check.noIndex("no such name, and 30 orders", () -> x.set(-1, 0, false));
        Check.noIndex("no such name as value, and 30 orders", () -> x.set(0, -99, true));
        Check.noArgument("out of range, and 30 orders", () -> x.set(0, -100, false));
        Check.noState("30 orders", () -> x.set(0, -99, false));
        Check.noIndex("no such name, and out of range", () -> new TurtleChalk().set(4, 100, false));
        Check.terms(6, FIRST);
        Check.noIndex("no such name, out of range, and 30 orders", () -> x.add(-1, -100, false));
        Check.noIndex("no such name, and 30 orders", () -> x.add(4, 0, false));
        Check.noIndex("no such name as value, and 30 orders", () -> x.add(0, 99, true));
        Check.noArgument("out of range, and 30 orders", () -> x.add(0, 100, false));
        Check.noState("30 orders", () -> x.add(0, 99, false));
        Check.noIndex("no such name, and out of range", () -> new TurtleChalk().add(-1, -100, false));
    }

    private static void firstOfWords() {
        Check.terms(8, FIRST);
        TurtleChalk x = full();
        Check.noIndex("no such word, 30 orders, and a block is open", () -> x.word(4));
        TurtleChalk open = new TurtleChalk();
        open.word(0);
        Check.noIndex("no such word, and a block is open", () -> open.word(-1));
        Check.noState("the word has a block, and it is open", () -> open.word(0));
        Check.terms(9, FIRST);
        Check.noIndex("no such word, and 30 orders", () -> x.call(4));
        Check.noState("30 orders", () -> x.call(3));
    }

    private static void firstOfWrite() {
        Check.terms(12, FIRST);
        Check.noIndex("no such pupil, and an empty draft", () -> new TurtleChalk().write(6));
        TurtleChalk open = inUse();
        Check.noIndex("no such pupil, and a block is open", () -> open.write(-1));
        TurtleChalk x = fullButDraft();
        Check.noIndex("no such pupil, and 30 programs", () -> x.write(6));
        Check.noState("30 programs", () -> x.write(5));
    }

    private static void firstOfExercises() {
        TurtleChalk x = full();
        Check.terms(13, FIRST);
        Check.noIndex("no such program, out of range, and 6", () -> x.exercise(30, 0, 601));
        Check.noIndex("no such program, and 6", () -> x.exercise(-1, 1, 0));
        Check.noArgument("orders out of range, and 6", () -> x.exercise(0, 31, 0));
        Check.noArgument("steps out of range, and 6", () -> x.exercise(0, 1, -1));
        Check.noState("6", () -> x.exercise(0, 1, 0));
        Check.noIndex("no such program, and out of range", () -> new TurtleChalk().exercise(0, 0, -1));
        Check.terms(14, FIRST);
        Check.noIndex("no such exercise, and orders out of range", () -> x.allow(6, 0, 0));
        Check.noIndex("no such exercise, and steps out of range", () -> x.allow(-1, 1, 601));
        Check.noIndex("no exercise at all, and out of range", () -> new TurtleChalk().allow(0, 31, 601));
        Check.terms(15, FIRST);
        Check.noIndex("no such program, and 24 works", () -> x.handIn(30, 0));
        Check.noIndex("no such exercise, and 24 works", () -> x.handIn(0, 6));
        Check.noState("24 works", () -> x.handIn(0, 0));
    }

    private static void firstOfAsked() {
        Check.terms(23, FIRST);
        TurtleChalk x = full();
        Check.noIndex("no such program, and steps too great", () -> x.strokesBySteps(30, 601));
        Check.noIndex("no such program, and steps too small", () -> x.strokesBySteps(-1, -1));
        Check.noArgument("steps too great", () -> x.strokesBySteps(29, 601));
    }

    // ---- a refused call changes nothing

    private static void draftAfterRefusals() {
        Check.terms(2, NOTHING);
        unchanged("forward", EveryCallTest::inUse, x -> {
            Check.noIndex("name 4", () -> x.forward(4, true));
            Check.noArgument("100", () -> x.forward(100, false));
        });
        Check.terms(3, NOTHING);
        unchanged("turn", EveryCallTest::inUse, x -> {
            Check.noIndex("name -1", () -> x.turn(-1, true));
            Check.noArgument("-1", () -> x.turn(-1, false));
        });
        Check.terms(5, NOTHING);
        unchanged("set", EveryCallTest::inUse, x -> {
            Check.noIndex("name 4", () -> x.set(4, 1, false));
            Check.noIndex("value of name 4", () -> x.set(0, 4, true));
            Check.noArgument("100", () -> x.set(2, 100, false));
        });
        Check.terms(6, NOTHING);
        unchanged("add", EveryCallTest::inUse, x -> {
            Check.noIndex("name -1", () -> x.add(-1, 1, false));
            Check.noIndex("value of name -1", () -> x.add(0, -1, true));
            Check.noArgument("-100", () -> x.add(2, -100, false));
        });
        Check.terms(7, NOTHING);
        unchanged("repeat", EveryCallTest::inUse, x -> {
            Check.noIndex("name 4", () -> x.repeat(4, true));
            Check.noArgument("100", () -> x.repeat(100, false));
        });
        Check.terms(8, NOTHING);
        unchanged("word", EveryCallTest::inUse, x -> {
            Check.noIndex("4", () -> x.word(4));
            Check.noState("a block is open", () -> x.word(0));
            Check.noState("it has a block", () -> x.word(1));
        });
        Check.terms(9, NOTHING);
        unchanged("call", EveryCallTest::inUse, x -> Check.noIndex("4", () -> x.call(4)));
        Check.terms(10, NOTHING);
        unchanged("end of none", EveryCallTest::fullButDraft, x -> Check.noState("none is open", x::end));
        unchanged("end of none in an empty draft", TurtleChalk::new, x -> Check.noState("none is open", x::end));
    }

    private static void fullDraftAfterRefusals() {
        Check.terms(2, NOTHING);
        unchanged("forward as the 31st", EveryCallTest::full, x -> Check.noState("full", () -> x.forward(1, false)));
        Check.terms(3, NOTHING);
        unchanged("turn as the 31st", EveryCallTest::full, x -> Check.noState("full", () -> x.turn(1, false)));
        Check.terms(4, NOTHING);
        unchanged("pen as the 31st", EveryCallTest::full, x -> Check.noState("full", () -> x.pen(true)));
        Check.terms(5, NOTHING);
        unchanged("set as the 31st", EveryCallTest::full, x -> Check.noState("full", () -> x.set(0, 1, false)));
        Check.terms(6, NOTHING);
        unchanged("add as the 31st", EveryCallTest::full, x -> Check.noState("full", () -> x.add(0, 1, false)));
        Check.terms(7, NOTHING);
        unchanged("repeat as the 31st", EveryCallTest::full, x -> Check.noState("full", () -> x.repeat(1, false)));
        Check.terms(8, NOTHING);
        unchanged("word as the 31st", EveryCallTest::full, x -> Check.noState("full", () -> x.word(0)));
        Check.terms(9, NOTHING);
        unchanged("call as the 31st", EveryCallTest::full, x -> Check.noState("full", () -> x.call(0)));
        Check.terms(10, NOTHING);
        unchanged("end as the 31st", EveryCallTest::full, x -> Check.noState("full", x::end));
    }

    private static void writeAfterRefusals() {
        Check.terms(12, NOTHING);
        unchanged("write", EveryCallTest::inUse, x -> {
            Check.noIndex("pupil 6", () -> x.write(6));
            Check.noState("a block is open", () -> x.write(0));
        });
        unchanged("write of nothing", TurtleChalk::new, x -> Check.noState("empty", () -> x.write(0)));
        unchanged("write as the 31st", EveryCallTest::fullButDraft, x -> {
            Check.noIndex("pupil -1", () -> x.write(-1));
            Check.noState("30 programs", () -> x.write(0));
        });
    }

    private static void exercisesAfterRefusals() {
        Check.terms(13, NOTHING);
        unchanged("exercise", EveryCallTest::inUse, x -> {
            Check.noIndex("program 3", () -> x.exercise(3, 5, 5));
            Check.noArgument("orders 0", () -> x.exercise(0, 0, 5));
            Check.noArgument("steps 601", () -> x.exercise(0, 5, 601));
        });
        unchanged("exercise as the 7th", EveryCallTest::full, x -> Check.noState("6", () -> x.exercise(0, 5, 5)));
        Check.terms(14, NOTHING);
        unchanged("allow", EveryCallTest::inUse, x -> {
            Check.noIndex("exercise 2", () -> x.allow(2, 1, 0));
            Check.noArgument("orders 0, steps 0", () -> x.allow(0, 0, 0));
            Check.noArgument("orders 1, steps -1", () -> x.allow(0, 1, -1));
            Check.noArgument("orders 31, steps 0", () -> x.allow(1, 31, 0));
            Check.noArgument("orders 1, steps 601", () -> x.allow(1, 1, 601));
        });
    }

    private static void worksAfterRefusals() {
        Check.terms(15, NOTHING);
        unchanged("handIn", EveryCallTest::inUse, x -> {
            Check.noIndex("program 3", () -> x.handIn(3, 0));
            Check.noIndex("exercise 2", () -> x.handIn(0, 2));
        });
        unchanged("handIn as the 25th", EveryCallTest::full, x -> Check.noState("24", () -> x.handIn(0, 0)));
        Check.terms(16, NOTHING);
        unchanged("clear", EveryCallTest::inUse, x -> {
            Check.noIndex("work 4", () -> x.clear(4, true));
            Check.noIndex("work -1", () -> x.clear(-1, false));
        });
        unchanged("clear behind 24", EveryCallTest::full, x -> Check.noIndex("work 24", () -> x.clear(24, true)));
    }

    private static void wallAfterRefusals() {
        Check.terms(17, NOTHING);
        unchanged("setWall", EveryCallTest::inUse, x -> {
            Check.noArgument("width 0", () -> x.setWall(0, 5));
            Check.noArgument("height 0", () -> x.setWall(5, 0));
            Check.noArgument("width 41", () -> x.setWall(41, 5));
            Check.noArgument("height 41", () -> x.setWall(5, 41));
        });
    }

    private static void askedRefusals() {
        for (int promise = 20; promise <= 33; promise++) {
            if (promise != 28) {
                int one = promise;
                Check.terms(promise, NOTHING);
                for (int bad : new int[] {-1, 40, FAR, LOW}) {
                    unchanged("a number " + bad, EveryCallTest::inUse,
                            x -> Check.noIndex("" + bad, () -> askWith(x, one, bad)));
                }
            }
        }
        Check.terms(23, NOTHING);
        unchanged("steps", EveryCallTest::inUse, x -> Check.noArgument("601", () -> x.strokesBySteps(0, 601)));
    }

    /** The question of the promise, with that number wherever it takes one. */
    private static void askWith(TurtleChalk x, int promise, int number) {
        switch (promise) {
            case 20 -> x.fault(number);
            case 21 -> x.steps(number);
            case 22 -> x.strokes(number);
            case 23 -> x.strokesBySteps(number, 5);
            case 24 -> x.isDrawn(0, number, number, true);
            case 25 -> x.areAlike(0, number);
            case 26 -> x.haveOneForm(0, number);
            case 27 -> x.likeness(0, number);
            case 29 -> x.meets(number);
            case 30 -> x.copyOf(number);
            case 31 -> x.hangs(number);
            case 32 -> x.onWall(number, number);
            case 33 -> x.hung(number);
            default -> throw new AssertionError("no question: " + promise);
        }
    }

    // ---- questions, and the last call

    private static void questions() {
        Check.terms(23, "drawings, judgements, copies and places on the wall are asked, which changes nothing");
        State[] states = {EveryCallTest::inUse, EveryCallTest::full, TurtleChalk::new};
        for (State state : states) {
            TurtleChalk x = state.made();
            ask(x, new ArrayList<>());
            for (int i = 0; i < x.programs() && i < 3; i++) {
                x.strokesBySteps(i, 5);
                x.isDrawn(i, 8, 8, true);
                x.areAlike(0, i);
                x.haveOneForm(0, i);
                x.likeness(0, i);
            }
            TurtleChalk other = state.made();
            List<Long> found = new ArrayList<>();
            List<Long> due = new ArrayList<>();
            goOn(x, found);
            goOn(other, due);
            Check.holds("what goes on from there", found.equals(due));
        }
        TurtleChalk x = inUse();
        Check.due("the same question twice", x.likeness(0, 2), x.likeness(0, 2));
        Check.due("by the same steps twice", x.strokesBySteps(2, 9), x.strokesBySteps(2, 9));
    }

    /** 30 programs of 15 orders, an exercise and 24 works are 505 calls. */
    private static void lastCall() {
        Check.whatItIs(1, "An object is used for at most 512 calls after it has been made");
        TurtleChalk x = new TurtleChalk();
        for (int program = 0; program < 30; program++) {
            for (int i = 0; i < 14; i++) {
                x.turn(program, false);
            }
            Check.due("the 15th order of program " + program, x.forward(1, false), 15);
            Check.due("program " + program, x.write(program % 6), program);
        }
        Check.due("call 481", x.exercise(0, 15, 16), 0);
        for (int i = 0; i < 24; i++) {
            Check.due("handIn " + i, x.handIn(4 * (i % 7), 0), i);
        }
        Check.due("call 506", x.setWall(3, 4), 6);
        Check.noIndex("call 507", () -> x.meets(24));
        Check.due("call 508", x.hangs(3), 2);
        Check.due("call 509", x.copyOf(23), TurtleChalk.NONE);
        Check.due("call 510", x.likeness(28, 29), 6);
        Check.due("call 511", x.strokesBySteps(29, 16), 1);
        Check.due("call 512", x.onWall(2, 1), 2);
    }
}
