import java.util.ArrayList;
import java.util.HashMap;
import java.util.List;
import java.util.Map;
import java.util.TreeSet;

/**
 * The document told a second time, as plainly as can be: the wall is laid for each question, and only what
 * programs are is kept, since they never change. A refused call answers the number of its exception. It shares
 * nothing with the program.
 */
final class Model {
    static final long NO_INDEX = 1000001L;
    static final long NO_ARGUMENT = 1000002L;
    static final long NO_STATE = 1000003L;

    /** One order: its sign, the name or word it is about, its value. */
    record Order(char sign, int target, int value, boolean isName) { }

    record Written(int pupil, List<Order> orders) { }

    /** What came of a run; the strokes are written "x y u" or "x y r". */
    static final class Outcome {
        int fault = 0;
        int steps = 0;
        final TreeSet<String> strokes = new TreeSet<>();
    }

    private static final class Broken extends RuntimeException {
        private static final long serialVersionUID = 1L;
        final int fault;

        Broken(int fault) {
            super(null, null, false, false);
            this.fault = fault;
        }
    }

    /** Does a program by calling itself for blocks. */
    private static final class Walk {
        final List<Order> orders;
        final int most;
        final Outcome outcome = new Outcome();
        final int[] names = new int[4];
        int x = 8;
        int y = 8;
        int heading = 0;
        boolean isDown = true;

        Walk(List<Order> orders, int most) {
            this.orders = orders;
            this.most = most;
        }

        Outcome done() {
            try {
                block(0, orders.size(), 0);
            } catch (Broken e) {
                outcome.fault = e.fault;
            }
            return outcome;
        }

        private void block(int from, int to, int depth) {
            for (int at = from; at < to; at++) {
                Order order = orders.get(at);
                if (order.sign == 'w') {
                    at = endOf(at);
                } else {
                    step();
                    int value = order.isName ? names[order.value] : order.value;
                    if (order.sign == 'r') {
                        for (int i = 0; i < value; i++) {
                            block(at + 1, endOf(at), depth);
                        }
                        at = endOf(at);
                    } else if (order.sign == 'c') {
                        word(order.target, depth + 1);
                    } else {
                        simple(order, value);
                    }
                }
            }
        }

        private void step() {
            if (outcome.steps + 1 > most) {
                throw new Broken(1);
            }
            outcome.steps++;
        }

        private void word(int word, int depth) {
            for (int at = 0; at < orders.size(); at++) {
                if (orders.get(at).sign == 'w' && orders.get(at).target == word) {
                    if (depth > 8) {
                        throw new Broken(4);
                    }
                    block(at + 1, endOf(at), depth);
                    return;
                }
            }
            throw new Broken(5);
        }

        private void simple(Order order, int value) {
            if (order.sign == 't') {
                heading = (((heading + value) % 4) + 4) % 4;
            } else if (order.sign == 'p') {
                isDown = value != 0;
            } else if (order.sign == 's' || order.sign == 'a') {
                int sum = order.sign == 'a' ? names[order.target] + value : value;
                if (Math.abs(sum) > 999) {
                    throw new Broken(3);
                }
                names[order.target] = sum;
            } else if (value < 0) {
                throw new Broken(3);
            } else {
                for (int i = 0; i < value; i++) {
                    onePoint();
                }
            }
        }

        private void onePoint() {
            int nextX = x + new int[] {0, 1, 0, -1}[heading];
            int nextY = y + new int[] {1, 0, -1, 0}[heading];
            if (outcome.steps + 1 > most) {
                throw new Broken(1);
            }
            if (nextX < 0 || nextX > 15 || nextY < 0 || nextY > 15) {
                throw new Broken(2);
            }
            step();
            if (isDown) {
                outcome.strokes.add(Math.min(x, nextX) + " " + Math.min(y, nextY) + (x == nextX ? " u" : " r"));
            }
            x = nextX;
            y = nextY;
        }

        private int endOf(int opener) {
            int open = 0;
            for (int at = opener; at < orders.size(); at++) {
                char sign = orders.get(at).sign;
                open += sign == 'r' || sign == 'w' ? 1 : sign == 'e' ? -1 : 0;
                if (open == 0) {
                    return at;
                }
            }
            throw new AssertionError("a block without end");
        }
    }

    private final List<Order> draft = new ArrayList<>();
    private final List<Written> programs = new ArrayList<>();
    private final Map<Integer, Outcome> outcomes = new HashMap<>();
    private final Map<Integer, Boolean> likes = new HashMap<>();
    private final Map<Integer, List<String>> forms = new HashMap<>();
    private final List<int[]> exercises = new ArrayList<>();
    private final List<int[]> works = new ArrayList<>();
    private final List<Boolean> cleared = new ArrayList<>();
    private int wide = 20;
    private int high = 20;

    // ---- the draft

    private static boolean isNone(int number, int bound) {
        return number < 0 || number >= bound;
    }

    int open() {
        int open = 0;
        for (Order order : draft) {
            open += order.sign == 'r' || order.sign == 'w' ? 1 : order.sign == 'e' ? -1 : 0;
        }
        return open;
    }

    private long draftOrder(Order order) {
        if (draft.size() == 30) {
            return NO_STATE;
        }
        draft.add(order);
        return draft.size();
    }

    long valued(char sign, int value, boolean isName) {
        return named(sign, 0, value, isName, 0);
    }

    long setOrAdd(char sign, int name, int value, boolean isName) {
        return named(sign, name, value, isName, -99);
    }

    private long named(char sign, int name, int value, boolean isName, int least) {
        if (isNone(name, 4) || isName && isNone(value, 4)) {
            return NO_INDEX;
        }
        if (!isName && (value < least || value > 99)) {
            return NO_ARGUMENT;
        }
        return draftOrder(new Order(sign, name, value, isName));
    }

    long pen(boolean isDown) {
        return draftOrder(new Order('p', 0, isDown ? 1 : 0, false));
    }

    long word(int word) {
        if (isNone(word, 4)) {
            return NO_INDEX;
        }
        for (Order order : draft) {
            if (order.sign == 'w' && order.target == word) {
                return NO_STATE;
            }
        }
        return open() > 0 ? NO_STATE : draftOrder(new Order('w', word, 0, false));
    }

    long call(int word) {
        return isNone(word, 4) ? NO_INDEX : draftOrder(new Order('c', word, 0, false));
    }

    long end() {
        if (open() == 0 || draft.size() == 30) {
            return NO_STATE;
        }
        draft.add(new Order('e', 0, 0, false));
        return open();
    }

    long wipe() {
        int had = draft.size();
        draft.clear();
        return had;
    }

    long write(int pupil) {
        if (isNone(pupil, 6)) {
            return NO_INDEX;
        }
        if (draft.isEmpty() || open() > 0 || programs.size() == 30) {
            return NO_STATE;
        }
        programs.add(new Written(pupil, new ArrayList<>(draft)));
        draft.clear();
        return programs.size() - 1;
    }

    long drafted() {
        return draft.size();
    }

    long written() {
        return programs.size();
    }

    // ---- programs

    private Outcome outcome(int program) {
        return outcomes.computeIfAbsent(program, p -> new Walk(programs.get(p).orders, 600).done());
    }

    private boolean noProgram(int program) {
        return isNone(program, programs.size());
    }

    long fault(int program) {
        return noProgram(program) ? NO_INDEX : outcome(program).fault;
    }

    long steps(int program) {
        return noProgram(program) ? NO_INDEX : outcome(program).steps;
    }

    long strokes(int program) {
        return noProgram(program) ? NO_INDEX : outcome(program).strokes.size();
    }

    long strokesBySteps(int program, int steps) {
        if (noProgram(program)) {
            return NO_INDEX;
        }
        if (steps < 0 || steps > 600) {
            return NO_ARGUMENT;
        }
        return new Walk(programs.get(program).orders, steps).done().strokes.size();
    }

    long isDrawn(int program, int x, int y, boolean isUp) {
        if (noProgram(program) || isNone(x, 16) || isNone(y, 16)) {
            return NO_INDEX;
        }
        return outcome(program).strokes.contains(x + " " + y + (isUp ? " u" : " r")) ? 1 : 0;
    }

    long areAlike(int one, int other) {
        if (noProgram(one) || noProgram(other)) {
            return NO_INDEX;
        }
        return alike(one, other) ? 1 : 0;
    }

    private boolean alike(int one, int other) {
        return likes.computeIfAbsent(100 * one + other, pair -> compare(one, other));
    }

    private boolean compare(int one, int other) {
        TreeSet<String> first = outcome(one).strokes;
        TreeSet<String> second = outcome(other).strokes;
        if (first.size() != second.size() || first.isEmpty()) {
            return first.size() == second.size();
        }
        for (int x = -15; x <= 15; x++) {
            for (int y = -15; y <= 15; y++) {
                if (shifted(first, x, y).equals(second)) {
                    return true;
                }
            }
        }
        return false;
    }

    private static TreeSet<String> shifted(TreeSet<String> strokes, int x, int y) {
        TreeSet<String> all = new TreeSet<>();
        for (String stroke : strokes) {
            String[] part = stroke.split(" ");
            all.add((Integer.parseInt(part[0]) + x) + " " + (Integer.parseInt(part[1]) + y) + " " + part[2]);
        }
        return all;
    }

    private List<String> form(int program) {
        return forms.computeIfAbsent(program, this::formAnew);
    }

    private List<String> formAnew(int program) {
        List<Integer> names = new ArrayList<>();
        List<Integer> words = new ArrayList<>();
        List<String> form = new ArrayList<>();
        for (Order order : programs.get(program).orders) {
            String text = "" + order.sign;
            if (order.sign == 's' || order.sign == 'a') {
                text += anew(names, order.target) + "=";
            }
            if (order.sign == 'w' || order.sign == 'c') {
                text += anew(words, order.target);
            } else {
                text += order.isName ? "n" + anew(names, order.value) : "" + order.value;
            }
            form.add(text);
        }
        return form;
    }

    private static int anew(List<Integer> seen, int number) {
        if (!seen.contains(number)) {
            seen.add(number);
        }
        return seen.indexOf(number);
    }

    long haveOneForm(int one, int other) {
        if (noProgram(one) || noProgram(other)) {
            return NO_INDEX;
        }
        return form(one).equals(form(other)) ? 1 : 0;
    }

    long likeness(int one, int other) {
        if (noProgram(one) || noProgram(other)) {
            return NO_INDEX;
        }
        List<String> first = form(one);
        List<String> second = form(other);
        return 200 * common(first, second, 0, 0, new HashMap<>()) / (first.size() + second.size());
    }

    private static int common(List<String> one, List<String> other, int i, int j, Map<Integer, Integer> known) {
        if (i == one.size() || j == other.size()) {
            return 0;
        }
        Integer had = known.get(100 * i + j);
        if (had != null) {
            return had;
        }
        int most = Math.max(common(one, other, i + 1, j, known), common(one, other, i, j + 1, known));
        if (one.get(i).equals(other.get(j))) {
            most = Math.max(most, 1 + common(one, other, i + 1, j + 1, known));
        }
        known.put(100 * i + j, most);
        return most;
    }

    // ---- exercises and works

    long tasks() {
        return exercises.size();
    }

    private static boolean isAllowance(int orders, int steps) {
        return orders >= 1 && orders <= 30 && steps >= 0 && steps <= 600;
    }

    long exercise(int program, int orders, int steps) {
        if (noProgram(program)) {
            return NO_INDEX;
        }
        if (!isAllowance(orders, steps)) {
            return NO_ARGUMENT;
        }
        if (exercises.size() == 6) {
            return NO_STATE;
        }
        exercises.add(new int[] {program, orders, steps});
        return exercises.size() - 1;
    }

    long allow(int exercise, int orders, int steps) {
        if (isNone(exercise, exercises.size())) {
            return NO_INDEX;
        }
        if (!isAllowance(orders, steps)) {
            return NO_ARGUMENT;
        }
        exercises.get(exercise)[1] = orders;
        exercises.get(exercise)[2] = steps;
        int count = 0;
        for (int work = 0; work < works.size(); work++) {
            count += works.get(work)[1] == exercise && meets(work) == 1 ? 1 : 0;
        }
        return count;
    }

    long handIn(int program, int exercise) {
        if (noProgram(program) || isNone(exercise, exercises.size())) {
            return NO_INDEX;
        }
        if (works.size() == 24) {
            return NO_STATE;
        }
        works.add(new int[] {program, exercise});
        cleared.add(false);
        return works.size() - 1;
    }

    long clear(int work, boolean isCleared) {
        return isNone(work, works.size()) ? NO_INDEX : cleared.set(work, isCleared) ? 1 : 0;
    }

    long handedIn() {
        return works.size();
    }

    long meets(int work) {
        if (isNone(work, works.size())) {
            return NO_INDEX;
        }
        int program = works.get(work)[0];
        int[] exercise = exercises.get(works.get(work)[1]);
        return fault(program) == 0 && alike(program, exercise[0])
                && programs.get(program).orders.size() <= exercise[1] && steps(program) <= exercise[2] ? 1 : 0;
    }

    long copyOf(int work) {
        if (isNone(work, works.size())) {
            return NO_INDEX;
        }
        for (int other = 0; other < work; other++) {
            int program = works.get(work)[0];
            int first = works.get(other)[0];
            if (works.get(other)[1] == works.get(work)[1]
                    && programs.get(first).pupil != programs.get(program).pupil
                    && form(first).equals(form(program))) {
                return other;
            }
        }
        return -1;
    }

    // ---- the wall

    long setWall(int width, int height) {
        if (width < 1 || width > 40 || height < 1 || height > 40) {
            return NO_ARGUMENT;
        }
        wide = width;
        high = height;
        int count = 0;
        for (int work = 0; work < works.size(); work++) {
            count += hangs(work) != -1 ? 1 : 0;
        }
        return count;
    }

    private int[] cellsOf(int program) {
        TreeSet<String> strokes = outcome(program).strokes;
        int[] edge = {99, 99, -1, -1};
        for (String stroke : strokes) {
            String[] part = stroke.split(" ");
            int x = Integer.parseInt(part[0]);
            int y = Integer.parseInt(part[1]);
            boolean isUp = part[2].equals("u");
            edge[0] = Math.min(edge[0], x);
            edge[1] = Math.min(edge[1], y);
            edge[2] = Math.max(edge[2], isUp ? x : x + 1);
            edge[3] = Math.max(edge[3], isUp ? y + 1 : y);
        }
        return strokes.isEmpty() ? new int[] {1, 1} : new int[] {edge[2] - edge[0] + 1, edge[3] - edge[1] + 1};
    }

    /** The cells with the works that hang there, and the places in row work of the second. */
    private int[][] wall(long[] places) {
        int[][] cells = new int[high][wide];
        for (int[] row : cells) {
            java.util.Arrays.fill(row, -1);
        }
        for (int work = 0; work < works.size(); work++) {
            places[work] = -1;
            boolean isDoubted = copyOf(work) != -1 && !cleared.get(work);
            if (meets(work) == 1 && !isDoubted) {
                places[work] = place(cells, work, cellsOf(works.get(work)[0]));
            }
        }
        return cells;
    }

    private long place(int[][] cells, int work, int[] size) {
        for (int y = 0; y < high; y++) {
            for (int x = 0; x < wide; x++) {
                if (isFree(cells, x, y, size)) {
                    for (int i = y; i < y + size[1]; i++) {
                        java.util.Arrays.fill(cells[i], x, x + size[0], work);
                    }
                    return 100L * x + y;
                }
            }
        }
        return -1;
    }

    private boolean isFree(int[][] cells, int x, int y, int[] size) {
        if (x + size[0] > wide || y + size[1] > high) {
            return false;
        }
        for (int i = y; i < y + size[1]; i++) {
            for (int j = x; j < x + size[0]; j++) {
                if (cells[i][j] != -1) {
                    return false;
                }
            }
        }
        return true;
    }

    long hangs(int work) {
        if (isNone(work, works.size())) {
            return NO_INDEX;
        }
        long[] places = new long[works.size()];
        wall(places);
        return places[work];
    }

    long onWall(int x, int y) {
        return isNone(x, wide) || isNone(y, high) ? NO_INDEX : wall(new long[works.size()])[y][x];
    }

    long hung(int pupil) {
        if (isNone(pupil, 6)) {
            return NO_INDEX;
        }
        long[] places = new long[works.size()];
        wall(places);
        int count = 0;
        for (int work = 0; work < works.size(); work++) {
            count += places[work] != -1 && programs.get(works.get(work)[0]).pupil == pupil ? 1 : 0;
        }
        return count;
    }

    /** A text of the program's orders, for copying it. */
    List<Order> ordersOf(int program) {
        return programs.get(program).orders;
    }
}
