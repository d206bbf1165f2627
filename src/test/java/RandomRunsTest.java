import java.util.ArrayList;
import java.util.Collections;
import java.util.List;
import java.util.Random;
import java.util.function.LongSupplier;

/**
 * All promises: long runs of calls, always the same ones, each answer against the Model. A run has 512
 * calls at most, as the document says, unless the whole state is looked at after it.
 */
public final class RandomRunsTest {
    private static final int MOST_CALLS = 512;
    private final Random random;
    private final int number;
    private final TurtleChalk chalk = new TurtleChalk();
    private final Model model = new Model();
    private final List<String> told = new ArrayList<>();
    private boolean isWrong = false;
    private int calls = 0;

    private RandomRunsTest(int number) {
        this.number = number;
        this.random = new Random(7919L * number + 17L);
    }

    public static void main(String[] args) {
        int runs = args.length > 0 ? Integer.parseInt(args[0]) : 600;
        for (int number = 0; number < runs; number++) {
            new RandomRunsTest(number).all();
        }
        Check.finish();
    }

    private void all() {
        if (number % 2 == 0) {
            fillWall();
        } else if (number % 4 == 1) {
            copyWorks();
        } else {
            longRuns();
        }
        while (calls < MOST_CALLS && !isWrong) {
            int kind = random.nextInt(100);
            if (kind < 18 && (model.written() < 30 || kind == 0)) {
                writeProgram();
            } else if (kind < 24) {
                draftWrongly();
            } else if (kind < 44) {
                askPrograms();
            } else if (kind < 78) {
                changeWorks();
            } else {
                askWorks();
            }
        }
    }

    private void same(String call, LongSupplier real, LongSupplier due) {
        if (calls >= MOST_CALLS || isWrong) {
            return;
        }
        calls++;
        told.add(call);
        long want = due.getAsLong();
        long got = answer(real);
        if (got != want) {
            isWrong = true;
            System.out.println("run " + number + ": " + String.join("; ", told));
        }
        Check.due("run " + number + ", call " + calls + ": " + call, got, want);
    }

    private static long answer(LongSupplier call) {
        try {
            return call.getAsLong();
        } catch (RuntimeException e) {
            return e.getClass() == IndexOutOfBoundsException.class ? Model.NO_INDEX
                    : e.getClass() == IllegalArgumentException.class ? Model.NO_ARGUMENT
                    : e.getClass() == IllegalStateException.class ? Model.NO_STATE : -1000000L;
        }
    }

    /** A number below the bound, at times one beside it. */
    private int near(int bound) {
        int kind = random.nextInt(20);
        return kind == 0 ? -1 : kind == 1 ? bound : bound <= 0 ? 0 : random.nextInt(bound);
    }

    private boolean coin() {
        return random.nextBoolean();
    }

    // ---- drafting

    private void give(Model.Order order) {
        int target = order.target();
        int value = order.value();
        boolean isName = order.isName();
        String rest = "(" + target + ", " + value + ", " + isName + ")";
        switch (order.sign()) {
            case 'f' -> same("forward" + rest, () -> chalk.forward(value, isName), () -> model.valued('f', value, isName));
            case 't' -> same("turn" + rest, () -> chalk.turn(value, isName), () -> model.valued('t', value, isName));
            case 'r' -> same("repeat" + rest, () -> chalk.repeat(value, isName), () -> model.valued('r', value, isName));
            case 'p' -> same("pen" + rest, () -> chalk.pen(value == 1), () -> model.pen(value == 1));
            case 's' -> same("set" + rest, () -> chalk.set(target, value, isName), () -> model.setOrAdd('s', target, value, isName));
            case 'a' -> same("add" + rest, () -> chalk.add(target, value, isName), () -> model.setOrAdd('a', target, value, isName));
            case 'w' -> same("word" + rest, () -> chalk.word(target), () -> model.word(target));
            case 'c' -> same("call" + rest, () -> chalk.call(target), () -> model.call(target));
            default -> same("end" + rest, () -> chalk.end(), () -> model.end());
        }
    }

    private Model.Order anyOrder() {
        char sign = "fffftttppssaarrwcceee".charAt(random.nextInt(21));
        boolean isName = random.nextInt(4) == 0;
        int value = isName ? random.nextInt(4) : random.nextInt(5);
        if (!isName && random.nextInt(12) == 0) {
            value = sign == 's' || sign == 'a' ? random.nextInt(199) - 99 : random.nextInt(100);
        }
        if (sign == 'p') {
            value &= 1;
            isName = false;
        }
        return new Model.Order(sign, random.nextInt(4), value, isName);
    }

    /** An order out of which long, deep and far runs are made. */
    private Model.Order busyOrder() {
        int target = random.nextInt(2);
        int big = 20 + random.nextInt(80);
        return switch (random.nextInt(10)) {
            case 0, 1 -> new Model.Order('r', 0, big, false);
            case 2, 3 -> new Model.Order('w', target, 0, false);
            case 4 -> new Model.Order('c', target, 0, false);
            case 5 -> new Model.Order('a', target, target, true);
            case 6 -> new Model.Order(coin() ? 'a' : 's', target, coin() ? big : -big, false);
            case 7 -> new Model.Order('f', 0, coin() ? target : random.nextInt(4), coin());
            case 8 -> new Model.Order('t', 0, 1, false);
            default -> new Model.Order('e', 0, 0, false);
        };
    }

    private void closeAll() {
        for (int i = 0; i < 15 && model.open() > 0 && model.drafted() < 30; i++) {
            give(new Model.Order('e', 0, 0, false));
        }
        if (random.nextInt(8) == 0) {
            give(new Model.Order('e', 0, 0, false));
        }
    }

    private void draftWrongly() {
        Model.Order order = anyOrder();
        int bound = order.isName() ? 4 : 100;
        give(new Model.Order(order.sign(), near(4), order.sign() == 'p' ? 1 : near(bound), order.isName()));
        if (random.nextInt(3) == 0) {
            same("wipe", () -> chalk.wipe(), () -> model.wipe());
        }
        int pupil = near(6);
        same("write " + pupil, () -> chalk.write(pupil), () -> model.write(pupil));
        same("drafted", () -> chalk.drafted(), () -> model.drafted());
    }

    private void writeProgram() {
        if (model.drafted() > 0) {
            same("wipe", () -> chalk.wipe(), () -> model.wipe());
        }
        int programs = (int) model.written();
        int kind = random.nextInt(10);
        if (programs > 0 && kind < 4) {
            for (Model.Order order : renamed(model.ordersOf(random.nextInt(programs)))) {
                give(order);
            }
        } else if (kind < 6) {
            figure();
        } else {
            int most = random.nextInt(5) == 0 ? 34 : 2 + random.nextInt(10);
            for (int i = 0; i < most; i++) {
                give(kind == 9 ? busyOrder() : anyOrder());
            }
            closeAll();
        }
        int pupil = random.nextInt(6);
        same("write " + pupil, () -> chalk.write(pupil), () -> model.write(pupil));
        same("programs", () -> chalk.programs(), () -> model.written());
    }

    /** A small drawing somewhere on the ground, so that drawings are often alike. */
    private void figure() {
        if (coin()) {
            give(new Model.Order('p', 0, 0, false));
            give(new Model.Order('t', 0, random.nextInt(4), false));
            give(new Model.Order('f', 0, random.nextInt(6), false));
            give(new Model.Order('t', 0, random.nextInt(4), false));
            give(new Model.Order('p', 0, 1, false));
        }
        int rounds = coin() ? 4 : 2;
        give(new Model.Order('r', 0, rounds, false));
        give(new Model.Order('f', 0, 1 + random.nextInt(2), false));
        give(new Model.Order('t', 0, coin() ? 1 : 3, false));
        give(new Model.Order('e', 0, 0, false));
    }

    /** Exercises for drawings of several sizes, and works for them in a mixed order. */
    private void fillWall() {
        int wide = 3 + random.nextInt(16);
        int high = 3 + random.nextInt(16);
        same("setWall " + wide + ", " + high, () -> chalk.setWall(wide, high), () -> model.setWall(wide, high));
        for (int i = 0; i < 6; i++) {
            int program = i;
            give(new Model.Order('f', 0, random.nextInt(7), false));
            give(new Model.Order('t', 0, 1 + 2 * random.nextInt(2), false));
            give(new Model.Order('f', 0, random.nextInt(7), false));
            same("write " + i % 2, () -> chalk.write(program % 2), () -> model.write(program % 2));
            same("exercise " + i, () -> chalk.exercise(program, 30, 600), () -> model.exercise(program, 30, 600));
        }
        for (int i = 0; i < 20; i++) {
            int one = random.nextInt(6);
            int work = i;
            same("handIn " + one, () -> chalk.handIn(one, one), () -> model.handIn(one, one));
            same("hangs " + work, () -> chalk.hangs(work), () -> model.hangs(work));
        }
    }

    /** Programs in two forms by several pupils, handed in for two exercises, and doubts cleared. */
    private void copyWorks() {
        for (int i = 0; i < 8; i++) {
            int program = i;
            int pupil = random.nextInt(4);
            if (i < 2) {
                figure();
            } else {
                for (Model.Order order : renamed(model.ordersOf(random.nextInt(i)))) {
                    give(order);
                }
            }
            same("write " + pupil, () -> chalk.write(pupil), () -> model.write(pupil));
            if (i < 2) {
                same("exercise " + i, () -> chalk.exercise(program, 30, 600), () -> model.exercise(program, 30, 600));
            }
        }
        for (int i = 0; i < 20; i++) {
            int program = random.nextInt(8);
            int exercise = random.nextInt(2);
            int last = i;
            int any = random.nextInt(i + 1);
            boolean isCleared = random.nextInt(3) > 0;
            same("handIn " + program + ", " + exercise,
                    () -> chalk.handIn(program, exercise), () -> model.handIn(program, exercise));
            same("copyOf " + last, () -> chalk.copyOf(last), () -> model.copyOf(last));
            same("clear " + any + ", " + isCleared,
                    () -> chalk.clear(any, isCleared) ? 1 : 0, () -> model.clear(any, isCleared));
            same("hangs " + any, () -> chalk.hangs(any), () -> model.hangs(any));
            same("hangs " + last, () -> chalk.hangs(last), () -> model.hangs(last));
        }
    }

    /** Programs whose runs often break off, each looked at after it is written. */
    private void longRuns() {
        for (int i = 0; i < 20; i++) {
            int program = i;
            int most = 4 + random.nextInt(14);
            for (int j = 0; j < most; j++) {
                give(random.nextInt(3) == 0 ? anyOrder() : busyOrder());
            }
            closeAll();
            if (random.nextInt(3) == 0) {
                give(new Model.Order('w', 0, 0, false));
                give(new Model.Order('e', 0, 0, false));
            }
            give(new Model.Order('c', random.nextInt(2), 0, false));
            give(new Model.Order('f', 0, 10, false));
            same("write 0", () -> chalk.write(0), () -> model.write(0));
            same("fault " + i, () -> chalk.fault(program), () -> model.fault(program));
            same("steps " + i, () -> chalk.steps(program), () -> model.steps(program));
            same("strokes " + i, () -> chalk.strokes(program), () -> model.strokes(program));
            for (int j = 0; j < 3; j++) {
                int steps = 1 + random.nextInt(j == 0 ? 600 : 30);
                same("strokesBySteps " + i + ", " + steps,
                        () -> chalk.strokesBySteps(program, steps), () -> model.strokesBySteps(program, steps));
            }
        }
    }

    /** The same form, unless one number is changed. */
    private List<Model.Order> renamed(List<Model.Order> orders) {
        List<Integer> names = new ArrayList<>(List.of(0, 1, 2, 3));
        Collections.shuffle(names, random);
        int changed = coin() ? random.nextInt(orders.size()) : -1;
        List<Model.Order> all = new ArrayList<>();
        for (int i = 0; i < orders.size(); i++) {
            Model.Order order = orders.get(i);
            int value = order.isName() ? names.get(order.value()) : order.value();
            if (i == changed) {
                value = order.sign() == 'p' ? 1 - value : order.isName() ? 3 - value : (value + 100) % 99;
            }
            all.add(new Model.Order(order.sign(), names.get(order.target()), value, order.isName()));
        }
        return all;
    }

    // ---- what is asked of programs

    private void askPrograms() {
        int programs = (int) model.written();
        int one = near(programs);
        int other = near(programs);
        int steps = coin() ? near(601) : near(40);
        int x = coin() ? near(16) : 6 + random.nextInt(5);
        int y = coin() ? near(16) : 6 + random.nextInt(5);
        boolean isUp = coin();
        switch (random.nextInt(8)) {
            case 0 -> same("fault " + one, () -> chalk.fault(one), () -> model.fault(one));
            case 1 -> same("steps " + one, () -> chalk.steps(one), () -> model.steps(one));
            case 2 -> same("strokes " + one, () -> chalk.strokes(one), () -> model.strokes(one));
            case 3 -> same("strokesBySteps " + one + ", " + steps,
                    () -> chalk.strokesBySteps(one, steps), () -> model.strokesBySteps(one, steps));
            case 4 -> same("isDrawn " + one + ", " + x + ", " + y + ", " + isUp,
                    () -> chalk.isDrawn(one, x, y, isUp) ? 1 : 0, () -> model.isDrawn(one, x, y, isUp));
            case 5 -> same("areAlike " + one + ", " + other,
                    () -> chalk.areAlike(one, other) ? 1 : 0, () -> model.areAlike(one, other));
            case 6 -> same("haveOneForm " + one + ", " + other,
                    () -> chalk.haveOneForm(one, other) ? 1 : 0, () -> model.haveOneForm(one, other));
            default -> same("likeness " + one + ", " + other,
                    () -> chalk.likeness(one, other), () -> model.likeness(one, other));
        }
    }

    // ---- exercises and works

    private void changeWorks() {
        int program = near((int) model.written());
        int exercise = near(coin() ? 2 : (int) model.tasks());
        int orders = coin() ? 30 : near(31);
        int steps = coin() ? 600 : near(coin() ? 601 : 40);
        int work = near((int) model.handedIn());
        boolean isCleared = coin();
        int width = coin() ? near(41) : 1 + random.nextInt(10);
        int height = coin() ? near(41) : 1 + random.nextInt(10);
        switch (random.nextInt(10)) {
            case 0 -> same("exercise " + program + ", " + orders + ", " + steps,
                    () -> chalk.exercise(program, orders, steps), () -> model.exercise(program, orders, steps));
            case 1, 2 -> same("allow " + exercise + ", " + orders + ", " + steps,
                    () -> chalk.allow(exercise, orders, steps), () -> model.allow(exercise, orders, steps));
            case 3, 4 -> same("clear " + work + ", " + isCleared,
                    () -> chalk.clear(work, isCleared) ? 1 : 0, () -> model.clear(work, isCleared));
            case 5 -> same("setWall " + width + ", " + height,
                    () -> chalk.setWall(width, height), () -> model.setWall(width, height));
            default -> same("handIn " + program + ", " + exercise,
                    () -> chalk.handIn(program, exercise), () -> model.handIn(program, exercise));
        }
    }

    private void askWorks() {
        int work = near((int) model.handedIn());
        int pupil = near(6);
        int x = coin() ? near(41) : near(12);
        int y = coin() ? near(41) : near(12);
        switch (random.nextInt(6)) {
            case 0 -> same("meets " + work, () -> chalk.meets(work) ? 1 : 0, () -> model.meets(work));
            case 1 -> same("copyOf " + work, () -> chalk.copyOf(work), () -> model.copyOf(work));
            case 2 -> same("hangs " + work, () -> chalk.hangs(work), () -> model.hangs(work));
            case 3 -> same("onWall " + x + ", " + y, () -> chalk.onWall(x, y), () -> model.onWall(x, y));
            case 4 -> same("hung " + pupil, () -> chalk.hung(pupil), () -> model.hung(pupil));
            default -> same("works", () -> chalk.works(), () -> model.handedIn());
        }
    }
}
