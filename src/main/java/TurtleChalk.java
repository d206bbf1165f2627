/**
 * A school of drawing by program: programs are written order by order, exercises set, works handed
 * in and hung on a wall. What each call promises is told in the document (DOC.md).
 */
public final class TurtleChalk {
    public static final int NONE = -1;
    public static final int FINE = 0, LONG = 1, OFF = 2, RANGE = 3, DEEP = 4, UNKNOWN = 5;

    private static final int SIDE = 16;
    private static final int MIDDLE = 8;
    private static final int HEADINGS = 4;

    private static final int NAMES = 4;
    private static final int WORDS = 4;
    private static final int PUPILS = 6;
    private static final int MOST_ORDERS = 30;
    private static final int MOST_PROGRAMS = 30;
    private static final int MOST_EXERCISES = 6;
    private static final int MOST_WORKS = 24;
    private static final int MOST_STEPS = 600;
    private static final int GREATEST_VALUE = 99;
    private static final int GREATEST_NAMED = 999;
    private static final int DEEPEST = 8;
    private static final int FIRST_WALL = 20;
    private static final int GREATEST_WALL = 40;

    // Orders that count no step are words and ends; each of these stands beside a counted one, so
    // that a run looks at far fewer orders than this.
    private static final int MOST_LOOKS = 100000;

    private static final int FORWARD = 0;
    private static final int TURN = 1;
    private static final int PEN = 2;
    private static final int SET = 3;
    private static final int ADD = 4;
    private static final int REPEAT = 5;
    private static final int WORD = 6;
    private static final int CALL = 7;
    private static final int END = 8;

    private final Draft draft;
    private final Run run;
    private final Drawing sketch;
    private final Desk desk;
    private final Wall wall;
    private final Program[] programRow;
    private final Exercise[] exerciseRow;
    private final Work[] workRow;
    private int programCount;
    private int exerciseCount;
    private int workCount;

    public TurtleChalk() {
        draft = new Draft();
        run = new Run();
        sketch = new Drawing();
        desk = new Desk();
        wall = new Wall();
        programRow = new Program[MOST_PROGRAMS];
        exerciseRow = new Exercise[MOST_EXERCISES];
        workRow = new Work[MOST_WORKS];
    }

    // ---- the draft of a program

    public int forward(int value, boolean isName)
            throws IndexOutOfBoundsException, IllegalArgumentException, IllegalStateException {
        checkValue(value, isName, 0);
        return addOrder(FORWARD, 0, value, isName);
    }

    public int turn(int value, boolean isName)
            throws IndexOutOfBoundsException, IllegalArgumentException, IllegalStateException {
        checkValue(value, isName, 0);
        return addOrder(TURN, 0, value, isName);
    }

    public int pen(boolean isDown) throws IllegalStateException {
        return addOrder(PEN, 0, isDown ? 1 : 0, false);
    }

    public int set(int name, int value, boolean isName)
            throws IndexOutOfBoundsException, IllegalArgumentException, IllegalStateException {
        checkName(name);
        checkValue(value, isName, -GREATEST_VALUE);
        return addOrder(SET, name, value, isName);
    }

    public int add(int name, int value, boolean isName)
            throws IndexOutOfBoundsException, IllegalArgumentException, IllegalStateException {
        checkName(name);
        checkValue(value, isName, -GREATEST_VALUE);
        return addOrder(ADD, name, value, isName);
    }

    public int repeat(int value, boolean isName)
            throws IndexOutOfBoundsException, IllegalArgumentException, IllegalStateException {
        checkValue(value, isName, 0);
        return addOrder(REPEAT, 0, value, isName);
    }

    public int word(int word) throws IndexOutOfBoundsException, IllegalStateException {
        checkWord(word);
        if (draft.openBlocks() > 0 || draft.tells(word)) {
            throw new IllegalStateException("a block is open, or the word has one");
        }
        return addOrder(WORD, word, 0, false);
    }

    public int call(int word) throws IndexOutOfBoundsException, IllegalStateException {
        checkWord(word);
        return addOrder(CALL, word, 0, false);
    }

    public int end() throws IllegalStateException {
        if (draft.openBlocks() <= 0) {
            throw new IllegalStateException("no block is open");
        }
        addOrder(END, 0, 0, false);
        return draft.openBlocks();
    }

    public int wipe() {
        int had = draft.length();
        draft.makeEmpty();
        return had;
    }

    public int write(int pupil) throws IndexOutOfBoundsException, IllegalStateException {
        checkPupil(pupil);
        if (draft.length() == 0 || draft.openBlocks() > 0) {
            throw new IllegalStateException("the draft is empty, or a block is open");
        }
        int number = programCount;
        if (number < 0 || number >= programRow.length) {
            throw new IllegalStateException("there are 30 programs");
        }
        Program program = new Program(pupil, draft);
        run.perform(program, program.drawing, MOST_STEPS);
        program.keepOutcome(run.brokenBy(), run.counted());
        programRow[number] = program;
        programCount = number + 1;
        draft.makeEmpty();
        return number;
    }

    // ---- exercises, works, the wall

    public int exercise(int program, int orders, int steps)
            throws IndexOutOfBoundsException, IllegalArgumentException, IllegalStateException {
        Program wanted = programAt(program);
        checkAllowance(orders, steps);
        int number = exerciseCount;
        if (number < 0 || number >= exerciseRow.length) {
            throw new IllegalStateException("there are 6 exercises");
        }
        exerciseRow[number] = new Exercise(wanted, orders, steps);
        exerciseCount = number + 1;
        return number;
    }

    public int allow(int exercise, int orders, int steps)
            throws IndexOutOfBoundsException, IllegalArgumentException {
        Exercise changed = exerciseAt(exercise);
        checkAllowance(orders, steps);
        changed.allowAtMost(orders, steps);
        layWall();
        return countMeeting(changed);
    }

    public int handIn(int program, int exercise)
            throws IndexOutOfBoundsException, IllegalStateException {
        Program handed = programAt(program);
        Exercise task = exerciseAt(exercise);
        int number = workCount;
        if (number < 0 || number >= workRow.length) {
            throw new IllegalStateException("there are 24 works");
        }
        workRow[number] = new Work(handed, task, findOriginal(handed, task));
        workCount = number + 1;
        layWall();
        return number;
    }

    public boolean clear(int work, boolean isCleared) throws IndexOutOfBoundsException {
        Work doubted = workAt(work);
        boolean wasCleared = doubted.isCleared;
        doubted.isCleared = isCleared;
        layWall();
        return wasCleared;
    }

    public int setWall(int width, int height) throws IllegalArgumentException {
        if (width < 1 || width > GREATEST_WALL || height < 1 || height > GREATEST_WALL) {
            throw new IllegalArgumentException("width or height is out of range");
        }
        wall.measure(width, height);
        layWall();
        return countHanging();
    }

    // ---- what is asked: programs

    public int drafted() {
        return draft.length();
    }

    public int programs() {
        return programCount;
    }

    public int fault(int program) throws IndexOutOfBoundsException {
        return programAt(program).brokenBy;
    }

    public int steps(int program) throws IndexOutOfBoundsException {
        return programAt(program).counted;
    }

    public int strokes(int program) throws IndexOutOfBoundsException {
        return programAt(program).drawing.strokeCount;
    }

    public int strokesBySteps(int program, int steps)
            throws IndexOutOfBoundsException, IllegalArgumentException {
        Program done = programAt(program);
        if (steps < 0 || steps > MOST_STEPS) {
            throw new IllegalArgumentException("steps is out of range");
        }
        sketch.makeEmpty();
        run.perform(done, sketch, steps);
        return sketch.strokeCount;
    }

    public boolean isDrawn(int program, int x, int y, boolean isUp)
            throws IndexOutOfBoundsException {
        Program asked = programAt(program);
        if (!isOnGround(x) || !isOnGround(y)) {
            throw new IndexOutOfBoundsException("there is no such point");
        }
        return asked.drawing.hasStroke(x, y, isUp);
    }

    public boolean areAlike(int one, int other) throws IndexOutOfBoundsException {
        Program first = programAt(one);
        Program second = programAt(other);
        return first.drawing.isShiftOf(second.drawing);
    }

    public boolean haveOneForm(int one, int other) throws IndexOutOfBoundsException {
        Program first = programAt(one);
        Program second = programAt(other);
        return first.hasFormOf(second);
    }

    public int likeness(int one, int other) throws IndexOutOfBoundsException {
        Program first = programAt(one);
        Program second = programAt(other);
        int together = first.length() + second.length();
        if (together <= 0) {
            return 0;
        }
        return 200 * desk.longestCommon(first.form, second.form) / together;
    }

    // ---- what is asked: works

    public int works() {
        return workCount;
    }

    public boolean meets(int work) throws IndexOutOfBoundsException {
        return workAt(work).meetsExercise();
    }

    public int copyOf(int work) throws IndexOutOfBoundsException {
        return workAt(work).original;
    }

    public int hangs(int work) throws IndexOutOfBoundsException {
        Work asked = workAt(work);
        return asked.isHanging ? 100 * asked.left + asked.low : NONE;
    }

    public int onWall(int x, int y) throws IndexOutOfBoundsException {
        if (!wall.hasCell(x, y)) {
            throw new IndexOutOfBoundsException("the wall has no such cell");
        }
        for (int i = 0; i < workCount && i < workRow.length; i++) {
            Work work = workRow[i];
            if (work != null && work.covers(x, y)) {
                return i;
            }
        }
        return NONE;
    }

    public int hung(int pupil) throws IndexOutOfBoundsException {
        checkPupil(pupil);
        int count = 0;
        for (int i = 0; i < workCount && i < workRow.length; i++) {
            Work work = workRow[i];
            if (work != null && work.isHanging && work.program.pupil == pupil) {
                count++;
            }
        }
        return count;
    }

    // ---- what the calls above share

    private static void checkName(int name) {
        if (name < 0 || name >= NAMES) {
            throw new IndexOutOfBoundsException("there is no such name");
        }
    }

    private static void checkWord(int word) {
        if (word < 0 || word >= WORDS) {
            throw new IndexOutOfBoundsException("there is no such word");
        }
    }

    private static void checkPupil(int pupil) {
        if (pupil < 0 || pupil >= PUPILS) {
            throw new IndexOutOfBoundsException("there is no such pupil");
        }
    }

    private static void checkValue(int value, boolean isName, int least) {
        if (isName) {
            checkName(value);
        } else if (value < least || value > GREATEST_VALUE) {
            throw new IllegalArgumentException("value is out of range");
        }
    }

    private static void checkAllowance(int orders, int steps) {
        if (orders < 1 || orders > MOST_ORDERS || steps < 0 || steps > MOST_STEPS) {
            throw new IllegalArgumentException("orders or steps is out of range");
        }
    }

    private static boolean isOnGround(int place) {
        return place >= 0 && place < SIDE;
    }

    private int addOrder(int kind, int target, int value, boolean isName) {
        if (draft.length() >= MOST_ORDERS) {
            throw new IllegalStateException("the draft has 30 orders");
        }
        draft.append(new Order(kind, target, value, isName));
        return draft.length();
    }

    private Program programAt(int number) {
        Program found = null;
        if (number >= 0 && number < programCount && number < programRow.length) {
            found = programRow[number];
        }
        if (found == null) {
            throw new IndexOutOfBoundsException("there is no such program");
        }
        return found;
    }

    private Exercise exerciseAt(int number) {
        Exercise found = null;
        if (number >= 0 && number < exerciseCount && number < exerciseRow.length) {
            found = exerciseRow[number];
        }
        if (found == null) {
            throw new IndexOutOfBoundsException("there is no such exercise");
        }
        return found;
    }

    private Work workAt(int number) {
        Work found = null;
        if (number >= 0 && number < workCount && number < workRow.length) {
            found = workRow[number];
        }
        if (found == null) {
            throw new IndexOutOfBoundsException("there is no such work");
        }
        return found;
    }

    // Works are never taken back and programs never change, so that what is found when a work is
    // handed in holds from then on.
    private int findOriginal(Program handed, Exercise task) {
        for (int i = 0; i < workCount && i < workRow.length; i++) {
            Work earlier = workRow[i];
            if (earlier != null && earlier.exercise == task
                    && earlier.program.pupil != handed.pupil
                    && earlier.program.hasFormOf(handed)) {
                return i;
            }
        }
        return NONE;
    }

    private int countMeeting(Exercise task) {
        int count = 0;
        for (int i = 0; i < workCount && i < workRow.length; i++) {
            Work work = workRow[i];
            if (work != null && work.exercise == task && work.meetsExercise()) {
                count++;
            }
        }
        return count;
    }

    private int countHanging() {
        int count = 0;
        for (int i = 0; i < workCount && i < workRow.length; i++) {
            Work work = workRow[i];
            if (work != null && work.isHanging) {
                count++;
            }
        }
        return count;
    }

    private void layWall() {
        wall.makeEmpty();
        for (int i = 0; i < workCount && i < workRow.length; i++) {
            Work work = workRow[i];
            if (work != null) {
                work.isHanging = false;
                if (work.meetsExercise() && !work.isInDoubt()) {
                    wall.place(work);
                }
            }
        }
    }

    /** One order of a program; what it has no use for is 0. */
    private static final class Order {
        private final int kind;
        private final int target;
        private final int value;
        private final boolean isName;

        Order(int kind, int target, int value, boolean isName) {
            this.kind = kind;
            this.target = target;
            this.value = value;
            this.isName = isName;
        }

        boolean opensBlock() {
            return kind == REPEAT || kind == WORD;
        }
    }

    /** The orders of a program that is not written yet. */
    private static final class Draft {
        private final Order[] orders;
        private final boolean[] told;
        private int count;
        private int open;

        Draft() {
            orders = new Order[MOST_ORDERS];
            told = new boolean[WORDS];
        }

        int length() {
            return count;
        }

        int openBlocks() {
            return open;
        }

        boolean tells(int word) {
            return word >= 0 && word < told.length && told[word];
        }

        Order orderAt(int at) {
            return at >= 0 && at < count && at < orders.length ? orders[at] : null;
        }

        void append(Order order) {
            if (count < 0 || count >= orders.length) {
                return;
            }
            orders[count] = order;
            count++;
            if (order.opensBlock()) {
                open++;
            } else if (order.kind == END) {
                open--;
            }
            if (order.kind == WORD && order.target >= 0 && order.target < told.length) {
                told[order.target] = true;
            }
        }

        void makeEmpty() {
            count = 0;
            open = 0;
            for (int i = 0; i < told.length; i++) {
                told[i] = false;
            }
        }
    }

    /** Numbers anew what comes, by where it comes first. */
    private static final class Renumbering {
        private final int[] fresh;
        private int count;

        Renumbering() {
            fresh = new int[NAMES > WORDS ? NAMES : WORDS];
            for (int i = 0; i < fresh.length; i++) {
                fresh[i] = NONE;
            }
        }

        int numberOf(int old) {
            if (old < 0 || old >= fresh.length) {
                return NONE;
            }
            if (fresh[old] == NONE) {
                fresh[old] = count;
                count++;
            }
            return fresh[old];
        }
    }

    /** A written program, with its form and what came of its run. */
    private static final class Program {
        private final int pupil;
        private final Order[] orders;
        private final int[] partners;
        private final int[] wordStarts;
        private final int[] form;
        private final Drawing drawing;
        private int brokenBy;
        private int counted;

        Program(int pupil, Draft draft) {
            int count = draft.length() > 0 ? draft.length() : 0;
            this.pupil = pupil;
            orders = new Order[count];
            partners = new int[count];
            form = new int[count];
            wordStarts = new int[WORDS];
            drawing = new Drawing();
            for (int i = 0; i < wordStarts.length; i++) {
                wordStarts[i] = NONE;
            }
            for (int i = 0; i < orders.length; i++) {
                orders[i] = draft.orderAt(i);
            }
            pairBlocks();
            findWords();
            buildForm();
        }

        int length() {
            return orders.length;
        }

        Order orderAt(int at) {
            return at >= 0 && at < orders.length ? orders[at] : null;
        }

        int partnerOf(int at) {
            return at >= 0 && at < partners.length ? partners[at] : NONE;
        }

        int startOf(int word) {
            return word >= 0 && word < wordStarts.length ? wordStarts[word] : NONE;
        }

        void keepOutcome(int brokenBy, int counted) {
            this.brokenBy = brokenBy;
            this.counted = counted;
        }

        boolean hasFormOf(Program other) {
            if (form.length != other.form.length) {
                return false;
            }
            for (int i = 0; i < form.length && i < other.form.length; i++) {
                if (form[i] != other.form[i]) {
                    return false;
                }
            }
            return true;
        }

        private void pairBlocks() {
            for (int i = 0; i < orders.length && i < partners.length; i++) {
                partners[i] = NONE;
                Order order = orders[i];
                if (order != null && order.kind == END) {
                    int opener = lastOpenAhead(i);
                    if (opener >= 0 && opener < partners.length) {
                        partners[opener] = i;
                        partners[i] = opener;
                    }
                }
            }
        }

        private int lastOpenAhead(int at) {
            for (int i = at - 1; i >= 0; i--) {
                Order order = orderAt(i);
                if (order != null && order.opensBlock() && partnerOf(i) == NONE) {
                    return i;
                }
            }
            return NONE;
        }

        private void findWords() {
            for (int i = 0; i < orders.length; i++) {
                Order order = orders[i];
                if (order != null && order.kind == WORD
                        && order.target >= 0 && order.target < wordStarts.length) {
                    wordStarts[order.target] = i;
                }
            }
        }

        private void buildForm() {
            Renumbering names = new Renumbering();
            Renumbering words = new Renumbering();
            for (int i = 0; i < orders.length && i < form.length; i++) {
                Order order = orders[i];
                if (order != null) {
                    int target = 0;
                    if (order.kind == SET || order.kind == ADD) {
                        target = names.numberOf(order.target);
                    } else if (order.kind == WORD || order.kind == CALL) {
                        target = words.numberOf(order.target);
                    }
                    int value = order.isName ? names.numberOf(order.value) : order.value;
                    form[i] = codeOf(order, target, value);
                }
            }
        }

        // One number for one order: kinds up to 15, targets up to 7, values from -99 to 99.
        private static int codeOf(Order order, int target, int value) {
            int head = (order.kind << 4) | (target << 1) | (order.isName ? 1 : 0);
            return (head << 8) | (value + GREATEST_VALUE);
        }
    }

    /** A set of strokes: the bit x of row y is the stroke whose lesser point is (x, y). */
    private static final class Drawing {
        private final int[] rights;
        private final int[] ups;
        private int strokeCount;
        private int leastX;
        private int leastY;
        private int greatestX;
        private int greatestY;

        Drawing() {
            rights = new int[SIDE];
            ups = new int[SIDE];
        }

        void makeEmpty() {
            strokeCount = 0;
            for (int i = 0; i < SIDE && i < rights.length && i < ups.length; i++) {
                rights[i] = 0;
                ups[i] = 0;
            }
        }

        boolean hasStroke(int x, int y, boolean isUp) {
            int[] rows = isUp ? ups : rights;
            return isOnGround(x) && y >= 0 && y < rows.length && (rows[y] >> x & 1) == 1;
        }

        void draw(int x, int y, boolean isUp) {
            int[] rows = isUp ? ups : rights;
            if (!isOnGround(x) || y < 0 || y >= rows.length || (rows[y] >> x & 1) == 1) {
                return;
            }
            rows[y] |= 1 << x;
            takeIn(x, y, isUp ? x : x + 1, isUp ? y + 1 : y);
            strokeCount++;
        }

        private void takeIn(int x, int y, int farX, int farY) {
            boolean isFirst = strokeCount == 0;
            leastX = isFirst || x < leastX ? x : leastX;
            leastY = isFirst || y < leastY ? y : leastY;
            greatestX = isFirst || farX > greatestX ? farX : greatestX;
            greatestY = isFirst || farY > greatestY ? farY : greatestY;
        }

        int cellsWide() {
            return strokeCount == 0 ? 1 : greatestX - leastX + 1;
        }

        int cellsHigh() {
            return strokeCount == 0 ? 1 : greatestY - leastY + 1;
        }

        boolean isShiftOf(Drawing other) {
            if (strokeCount != other.strokeCount) {
                return false;
            }
            if (strokeCount == 0) {
                return true;
            }
            for (int i = 0; i < SIDE; i++) {
                if (rowInCorner(rights, i) != other.rowInCorner(other.rights, i)
                        || rowInCorner(ups, i) != other.rowInCorner(other.ups, i)) {
                    return false;
                }
            }
            return true;
        }

        private int rowInCorner(int[] rows, int i) {
            int y = leastY + i;
            return isOnGround(leastX) && y >= 0 && y < rows.length ? rows[y] >> leastX : 0;
        }
    }

    /** The turtle on the ground, with its pen. */
    private static final class Turtle {
        private int x;
        private int y;
        private int heading;
        private boolean isDown;

        void begin() {
            x = MIDDLE;
            y = MIDDLE;
            heading = 0;
            isDown = true;
        }

        void turnBy(int value) {
            heading = Math.floorMod(heading + value, HEADINGS);
        }

        void putPen(boolean down) {
            isDown = down;
        }

        boolean canGo() {
            return isOnGround(x + aheadX()) && isOnGround(y + aheadY());
        }

        void go(Drawing drawing) {
            int nextX = x + aheadX();
            int nextY = y + aheadY();
            if (isDown) {
                drawing.draw(Math.min(x, nextX), Math.min(y, nextY), x == nextX);
            }
            x = nextX;
            y = nextY;
        }

        private int aheadX() {
            return heading == 1 ? 1 : heading == 3 ? -1 : 0;
        }

        private int aheadY() {
            return heading == 0 ? 1 : heading == 2 ? -1 : 0;
        }
    }

    /** Does the orders of a program one by one; one object does all runs, one after the other. */
    private static final class Run {
        private final Turtle turtle;
        private final int[] names;
        // The rounds that a repeat still has, by how deep its call is and by its place.
        private final int[] roundsLeft;
        private final int[] callers;
        private Drawing drawing;
        private int depth;
        private int mostSteps;
        private int stepCount;
        private int breaker;

        Run() {
            turtle = new Turtle();
            names = new int[NAMES];
            roundsLeft = new int[(DEEPEST + 1) * MOST_ORDERS];
            callers = new int[DEEPEST];
            drawing = new Drawing();
        }

        int brokenBy() {
            return breaker;
        }

        int counted() {
            return stepCount;
        }

        void perform(Program program, Drawing paper, int most) {
            drawing = paper;
            mostSteps = most;
            stepCount = 0;
            depth = 0;
            breaker = FINE;
            turtle.begin();
            for (int i = 0; i < names.length; i++) {
                names[i] = 0;
            }
            int at = 0;
            for (int look = 0; look < MOST_LOOKS && at >= 0 && at < program.length(); look++) {
                at = follow(program, at);
            }
        }

        // The place of the next order; NONE if the run breaks off.
        private int follow(Program program, int at) {
            Order order = program.orderAt(at);
            if (order == null) {
                return NONE;
            }
            if (order.kind == WORD) {
                return program.partnerOf(at) + 1;
            }
            if (order.kind == END) {
                return closeBlock(program, at);
            }
            if (!canCount()) {
                return NONE;
            }
            stepCount++;
            int value = valueOf(order);
            switch (order.kind) {
                case FORWARD:
                    return goForward(value) ? at + 1 : NONE;
                case TURN:
                    turtle.turnBy(value);
                    return at + 1;
                case PEN:
                    turtle.putPen(value == 1);
                    return at + 1;
                case SET:
                    return putName(order.target, value) ? at + 1 : NONE;
                case ADD:
                    return putName(order.target, nameAt(order.target) + value) ? at + 1 : NONE;
                case REPEAT:
                    return beginRepeat(program, at, value);
                case CALL:
                    return enterWord(program, at, order.target);
                default:
                    return NONE;
            }
        }

        private boolean canCount() {
            if (stepCount >= mostSteps) {
                breaker = LONG;
                return false;
            }
            return true;
        }

        private int valueOf(Order order) {
            return order.isName ? nameAt(order.value) : order.value;
        }

        private int nameAt(int name) {
            return name >= 0 && name < names.length ? names[name] : 0;
        }

        private boolean putName(int name, int number) {
            if (number > GREATEST_NAMED || number < -GREATEST_NAMED) {
                breaker = RANGE;
                return false;
            }
            if (name >= 0 && name < names.length) {
                names[name] = number;
            }
            return true;
        }

        private boolean goForward(int value) {
            if (value < 0) {
                breaker = RANGE;
                return false;
            }
            for (int i = 0; i < value; i++) {
                if (!canCount()) {
                    return false;
                }
                if (!turtle.canGo()) {
                    breaker = OFF;
                    return false;
                }
                stepCount++;
                turtle.go(drawing);
            }
            return true;
        }

        private int beginRepeat(Program program, int at, int rounds) {
            int close = program.partnerOf(at);
            int slot = depth * MOST_ORDERS + at;
            boolean isSkipped = rounds <= 0 || close == at + 1;
            if (isSkipped || slot < 0 || slot >= roundsLeft.length) {
                return close + 1;
            }
            roundsLeft[slot] = rounds;
            return at + 1;
        }

        private int enterWord(Program program, int at, int word) {
            int start = program.startOf(word);
            if (start == NONE) {
                breaker = UNKNOWN;
                return NONE;
            }
            if (depth < 0 || depth >= callers.length) {
                breaker = DEEP;
                return NONE;
            }
            callers[depth] = at;
            depth++;
            return start + 1;
        }

        private int closeBlock(Program program, int at) {
            int opener = program.partnerOf(at);
            Order opening = program.orderAt(opener);
            if (opening != null && opening.kind == WORD) {
                return leaveWord();
            }
            int slot = depth * MOST_ORDERS + opener;
            if (slot < 0 || slot >= roundsLeft.length) {
                return NONE;
            }
            roundsLeft[slot]--;
            return roundsLeft[slot] > 0 ? opener + 1 : at + 1;
        }

        private int leaveWord() {
            int caller = depth - 1;
            if (caller < 0 || caller >= callers.length) {
                return NONE;
            }
            depth = caller;
            return callers[caller] + 1;
        }
    }

    /** Compares forms; its two rows are used again for each pair. */
    private static final class Desk {
        private int[] above;
        private int[] below;

        Desk() {
            above = new int[MOST_ORDERS + 1];
            below = new int[MOST_ORDERS + 1];
        }

        int longestCommon(int[] one, int[] other) {
            int width = Math.min(other.length, Math.min(above.length, below.length) - 1);
            for (int j = 0; j < above.length; j++) {
                above[j] = 0;
            }
            for (int i = 0; i < one.length; i++) {
                fillBelow(one[i], other, width);
                int[] used = above;
                above = below;
                below = used;
            }
            return width >= 0 && width < above.length ? above[width] : 0;
        }

        private void fillBelow(int order, int[] other, int width) {
            if (below.length > 0) {
                below[0] = 0;
            }
            for (int j = 1; j <= width && j < above.length && j < below.length
                    && j <= other.length; j++) {
                if (other[j - 1] == order) {
                    below[j] = above[j - 1] + 1;
                } else {
                    below[j] = Math.max(above[j], below[j - 1]);
                }
            }
        }
    }

    /** A wanted drawing, and what programs for it may use. */
    private static final class Exercise {
        private final Program wanted;
        private int mostOrders;
        private int mostSteps;

        Exercise(Program wanted, int mostOrders, int mostSteps) {
            this.wanted = wanted;
            this.mostOrders = mostOrders;
            this.mostSteps = mostSteps;
        }

        void allowAtMost(int orders, int steps) {
            mostOrders = orders;
            mostSteps = steps;
        }

        boolean isMetBy(Program program) {
            return program.brokenBy == FINE
                    && program.length() <= mostOrders
                    && program.counted <= mostSteps
                    && program.drawing.isShiftOf(wanted.drawing);
        }
    }

    /** A program that was handed in for an exercise, and where it hangs. */
    private static final class Work {
        private final Program program;
        private final Exercise exercise;
        private final int original;
        private boolean isCleared;
        private boolean isHanging;
        private int left;
        private int low;

        Work(Program program, Exercise exercise, int original) {
            this.program = program;
            this.exercise = exercise;
            this.original = original;
        }

        boolean meetsExercise() {
            return exercise.isMetBy(program);
        }

        boolean isInDoubt() {
            return original != NONE && !isCleared;
        }

        boolean covers(int x, int y) {
            return isHanging && x >= left && x < left + program.drawing.cellsWide()
                    && y >= low && y < low + program.drawing.cellsHigh();
        }

        void hangAt(int x, int y) {
            left = x;
            low = y;
            isHanging = true;
        }
    }

    /** The cells of the wall: the bit x of row y tells whether a work has the cell (x, y). */
    private static final class Wall {
        private final long[] taken;
        private int width;
        private int height;

        Wall() {
            taken = new long[GREATEST_WALL];
            width = FIRST_WALL;
            height = FIRST_WALL;
        }

        void measure(int newWidth, int newHeight) {
            width = newWidth;
            height = newHeight;
        }

        void makeEmpty() {
            for (int i = 0; i < taken.length; i++) {
                taken[i] = 0L;
            }
        }

        boolean hasCell(int x, int y) {
            return x >= 0 && x < width && y >= 0 && y < height;
        }

        void place(Work work) {
            int wide = work.program.drawing.cellsWide();
            int high = work.program.drawing.cellsHigh();
            long mask = (1L << wide) - 1L;
            for (int y = 0; y <= height - high; y++) {
                int x = firstFree(takenFrom(y, high), mask, width - wide);
                if (x != NONE) {
                    take(y, high, mask << x);
                    work.hangAt(x, y);
                    return;
                }
            }
        }

        private static int firstFree(long cells, long mask, int greatestX) {
            for (int x = 0; x <= greatestX; x++) {
                if ((cells >> x & mask) == 0L) {
                    return x;
                }
            }
            return NONE;
        }

        private long takenFrom(int y, int high) {
            long cells = 0L;
            for (int i = y; i < y + high && i >= 0 && i < taken.length; i++) {
                cells |= taken[i];
            }
            return cells;
        }

        private void take(int y, int high, long cells) {
            for (int i = y; i < y + high && i >= 0 && i < taken.length; i++) {
                taken[i] |= cells;
            }
        }
    }
}
