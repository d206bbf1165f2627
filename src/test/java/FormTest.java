/** Promises 26 and 27 and what Terms say of forms, sentence by sentence. */
public final class FormTest {
    private static final int[] NO_PROGRAMS = {-1, 1, 29, 30, 256, Integer.MAX_VALUE, Integer.MIN_VALUE};

    public static void main(String[] args) {
        namesAnew();
        targetsAheadOfValues();
        wordsAnew();
        orderByOrder();
        numbersIncluded();
        haveOneFormRefuses();
        roundedDown();
        longestRow();
        bothTogether();
        leastAndMost();
        likenessRefuses();
        Check.finish();
    }

    private static void form(String one, String other, boolean due) {
        TurtleChalk x = new TurtleChalk();
        Script.write(x, 0, one);
        Script.write(x, 0, other);
        Check.due(one + " and " + other + ": form", x.haveOneForm(0, 1), due);
        Check.due(other + " and " + one + ": form", x.haveOneForm(1, 0), due);
        Check.due(one + " and itself: form", x.haveOneForm(0, 0), true);
        Check.due(one + " and itself: likeness", x.likeness(0, 0), 100);
        Check.due(one + " and " + other + ": all alike", x.likeness(0, 1) == 100, due);
    }

    private static void namesAnew() {
        Check.terms(26, "names are numbered anew by where they come first");
        form("f1", "f1", true);
        form("fn3", "fn0", true);
        form("s1=2 r4 fn1 t1 e", "s3=2 r4 fn3 t1 e", true);
        form("fn0 tn1 rn2 e", "fn3 tn2 rn0 e", true);
        form("fn0 fn1 fn2 fn3 fn2", "fn3 fn1 fn0 fn2 fn0", true);
        form("fn0 fn0", "fn0 fn1", false);
        form("fn0 fn1 fn1", "fn0 fn1 fn2", false);
        form("fn0 fn1 fn2 fn2", "fn0 fn1 fn2 fn3", false);
        form("fn0 fn1 fn2 fn1", "fn0 fn1 fn2 fn2", false);
        form("fn0 fn1 fn2 fn3 fn0", "fn0 fn1 fn2 fn3 fn3", false);
        form("s0=1 s1=2 fn0", "s0=1 s1=2 fn1", false);
        form("s0=1 a0=1", "s0=1 a1=1", false);
        form("w0 fn2 e fn1", "w0 fn1 e fn3", true);
    }

    private static void targetsAheadOfValues() {
        Check.terms(26, "that which is set or added to ahead of one that is its value");
        form("s0=n1 a1=n0", "s2=n3 a3=n2", true);
        form("s1=n0 s0=n1", "s0=n1 s1=n0", true);
        form("s0=n0", "s3=n3", true);
        form("a1=n2 fn1", "a3=n0 fn3", true);
        form("s0=n1 fn0", "s1=n0 fn0", false);
        form("a0=n1 fn0", "a0=n1 fn1", false);
        form("s0=n0", "s0=n1", false);
        form("fn0 a0=n1", "fn1 a1=n0", true);
        form("fn0 a0=n1", "fn0 a1=n0", false);
        form("s0=n1 fn0 fn1", "s1=n0 fn1 fn0", true);
        form("s0=n1 fn0 fn1", "s0=n1 fn1 fn0", false);
    }

    private static void wordsAnew() {
        Check.terms(26, "and words likewise");
        form("c3", "c0", true);
        form("c2 w2 f1 e c1", "c0 w0 f1 e c3", true);
        form("w3 e w2 e c3", "w0 e w1 e c0", true);
        form("c0 c1 c2 c3 c2", "c3 c1 c0 c2 c0", true);
        form("c0 c1 c2 c1", "c0 c1 c2 c2", false);
        form("c0 c1 c1", "c0 c1 c2", false);
        form("w0 e c0", "w0 e c1", false);
        form("c0 c1 c0", "c0 c1 c1", false);
        form("w0 e w1 e c0", "w0 e w1 e c1", false);
        // Names and words are numbered each by themselves.
        form("c1 s1=1", "c2 s0=1", true);
        form("s3=1 c0 fn3", "s0=1 c3 fn0", true);
        form("w0 e c1 pd t0 r0 e fn1 fn0", "w1 e c0 pd t0 r0 e fn0 fn1", true);
    }

    private static void orderByOrder() {
        Check.terms(26, "Two programs have one form, if both rows are the same, order by order");
        form("f1 t1 f1", "f1 t1 f1", true);
        form("f1", "t1", false);
        form("f1", "f1 f1", false);
        form("f1 t1", "t1 f1", false);
        form("s0=1", "a0=1", false);
        form("r1 f1 e", "r1 e f1", false);
        form("r2 e", "w2 e", false);
        form("r0 e", "w0 e", false);
        form("w0 e", "c0 t1", false);
        form("pu", "pd", false);
        form("pd", "f1", false);
        form("pu", "f0", false);
        form("c0", "f0", false);
        form(Script.times(30, "f1"), Script.times(30, "f1"), true);
        form(Script.times(30, "f1"), Script.times(29, "f1"), false);
        form(Script.times(30, "f1"), Script.times(29, "f1") + " f2", false);
        form("f2 " + Script.times(29, "f1"), Script.times(30, "f1"), false);
    }

    private static void numbersIncluded() {
        Check.terms(26, "numbers included");
        form("f1", "f2", false);
        form("f0", "f99", false);
        form("t1", "t5", false);
        form("s0=1", "s0=-1", false);
        form("s0=99", "s0=-99", false);
        form("a0=-99", "a0=-98", false);
        form("s0=0", "s0=n0", false);
        form("f0", "fn0", false);
        form("f1", "fn1", false);
        form("r0 e", "rn0 e", false);
        form("fn0 s0=n0", "fn0 s1=0", false);
        form("fn0 a0=n1", "fn0 a1=1", false);
    }

    private static void haveOneFormRefuses() {
        Check.sentence(26, "Throws `IndexOutOfBoundsException` if there is no such program, of either");
        TurtleChalk x = new TurtleChalk();
        Check.noIndex("of none", () -> x.haveOneForm(0, 0));
        Script.write(x, 0, "f1");
        for (int bad : NO_PROGRAMS) {
            Check.noIndex("one " + bad, () -> x.haveOneForm(bad, 0));
            Check.noIndex("other " + bad, () -> x.haveOneForm(0, bad));
            Check.noIndex("both " + bad, () -> x.haveOneForm(bad, bad));
        }
        Check.sentence(26, "Returns whether they have.");
        Check.due("the last and itself", x.haveOneForm(0, 0), true);
    }

    private static void likeness(String one, String other, int due) {
        TurtleChalk x = new TurtleChalk();
        Script.write(x, 0, one);
        Script.write(x, 1, other);
        Check.due(one + " and " + other + ": likeness", x.likeness(0, 1), due);
        Check.due(other + " and " + one + ": likeness", x.likeness(1, 0), due);
    }

    private static void roundedDown() {
        Check.terms(27, "All divisions are rounded down.");
        likeness("f1", "f1 f2", 66);
        likeness("f1", "f1 f2 f3", 50);
        likeness("f1", "f1 f2 f3 f4", 40);
        likeness("f1", "f1 f2 f3 f4 f5", 33);
        likeness("f1 f2", "f1 f2 f3 f4 f5", 57);
        likeness("f1", Script.times(30, "f1"), 6);
        likeness(Script.times(30, "f1"), Script.times(29, "f1"), 98);
        likeness(Script.times(30, "f1"), Script.times(29, "f1") + " f2", 96);
        likeness(Script.times(29, "f2") + " f1", "f1 " + Script.times(29, "f3"), 3);
    }

    private static void longestRow() {
        Check.terms(27, "the longest row that can be had from both forms by leaving orders out");
        likeness("f1 f2", "f2 f1", 50);
        likeness("f1 f2 f3", "f3 f1 f2", 66);
        likeness("f1 f2 f3 f4", "f4 f3 f2 f1", 25);
        likeness("f1 t1 f1 t1", "t1 f1 t1 f1", 75);
        likeness("f1 f1 f1", "f1", 50);
        likeness("r4 f2 t1 e", "s1=2 r4 fn1 t1 e", 66);
        likeness("s0=1 fn0", "s1=1 fn1", 100);
        likeness("fn2 s0=1 fn0", "s0=1 fn0", 40);
        likeness("w1 e c0", "w0 e c0", 66);
        likeness("f1 f2 f3 f4 f5", "f9 f1 f9 f3 f9 f5 f9", 50);
        likeness("f1 f2 f3 f4 f5 f6", "f2 f4 f6 f1 f3 f5", 50);
    }

    private static void bothTogether() {
        Check.terms(27, "divided by how many orders both have, together");
        likeness("f1", "f1 t1", 66);
        likeness("f1 t1", "f1 t1 f1 t1", 66);
        likeness("w0 f1 e", "w0 f1 e c0", 85);
        likeness("r2 f1 e", "f1", 50);
        likeness("f1 f2 f3 f4", "f1", 40);
        likeness(Script.times(30, "f1"), Script.times(15, "f1"), 66);
        likeness(Script.times(30, "f1"), "f1 f1", 12);
    }

    private static void leastAndMost() {
        Check.sentence(27, "Returns 0 to 100.");
        likeness("f1", "f2", 0);
        likeness("f1", "t1", 0);
        likeness(Script.times(30, "f1"), Script.times(30, "t1"), 0);
        likeness("f1", "f1", 100);
        likeness(Script.times(30, "f1"), Script.times(30, "f1"), 100);
        likeness(Script.times(15, "r1") + " " + Script.times(15, "e"),
                Script.times(15, "r1") + " " + Script.times(15, "e"), 100);
    }

    private static void likenessRefuses() {
        Check.sentence(27, "Throws `IndexOutOfBoundsException` if there is no such program, of either");
        TurtleChalk x = new TurtleChalk();
        Check.noIndex("of none", () -> x.likeness(0, 0));
        Script.write(x, 0, "f1");
        for (int bad : NO_PROGRAMS) {
            Check.noIndex("one " + bad, () -> x.likeness(bad, 0));
            Check.noIndex("other " + bad, () -> x.likeness(0, bad));
            Check.noIndex("both " + bad, () -> x.likeness(bad, bad));
        }
    }
}
