/** Promises 26 and 27: forms and likeness. */
public final class FormTest {
    public static void main(String[] args) {
        sameForm();
        otherForm();
        likeness();
        refusals();
        Check.finish();
    }

    private static void form(String one, String other, boolean due) {
        TurtleChalk x = new TurtleChalk();
        Script.write(x, 0, one);
        Script.write(x, 0, other);
        Check.due(one + " and " + other + ": form", x.haveOneForm(0, 1), due);
        Check.due(other + " and " + one + ": form", x.haveOneForm(1, 0), due);
        Check.due(one + " and itself: form", x.haveOneForm(0, 0), true);
        Check.due(one + " and itself: likeness", x.likeness(0, 0), 100);
        if (due) {
            Check.due(one + " and " + other + ": likeness", x.likeness(0, 1), 100);
        }
    }

    private static void sameForm() {
        form("f1", "f1", true);
        form("s1=2 r4 fn1 t1 e", "s3=2 r4 fn3 t1 e", true);
        form("fn0 tn1 rn2 e", "fn3 tn2 rn0 e", true);
        form("s0=n1 a1=n0", "s2=n3 a3=n2", true);
        form("s1=n0 s0=n1", "s0=n1 s1=n0", true);
        form("c2 w2 f1 e c1", "c0 w0 f1 e c3", true);
        form("w3 e w2 e c3", "w0 e w1 e c0", true);
        form("c1 s1=1", "c2 s0=1", true);
        form("s0=n0", "s3=n3", true);
        form("fn0 fn1 fn2 fn3 fn2", "fn3 fn1 fn0 fn2 fn0", true);
        form("c0 c1 c2 c3 c2", "c3 c1 c0 c2 c0", true);
        form("w0 e c1 pd t0 r0 e fn1 fn0", "w1 e c0 pd t0 r0 e fn0 fn1", true);
    }

    private static void otherForm() {
        form("f1", "f2", false);
        form("f1", "t1", false);
        form("f1", "f1 f1", false);
        form("f0", "fn0", false);
        form("f1", "fn1", false);
        form("pu", "pd", false);
        form("s0=1", "a0=1", false);
        form("s0=1", "s0=-1", false);
        form("s0=n0", "s0=n1", false);
        form("s0=0", "s0=n0", false);
        form("t1", "t5", false);
        form("f1 t1", "t1 f1", false);
        form("fn0 fn0", "fn0 fn1", false);
        form("fn0 fn1 fn2 fn1", "fn0 fn1 fn2 fn2", false);
        form("fn0 fn1 fn2 fn3 fn0", "fn0 fn1 fn2 fn3 fn3", false);
        form("c0 c1 c2 c1", "c0 c1 c2 c2", false);
        form("fn0 s0=n0", "fn0 s1=0", false);
        form("fn0 a0=n1", "fn0 a1=1", false);
        form("s0=1 s1=2 fn0", "s0=1 s1=2 fn1", false);
        form("s0=n1 fn0", "s1=n0 fn0", false);
        form("w0 e c0", "w0 e c1", false);
        form("c0 c1 c0", "c0 c1 c1", false);
        form("r1 f1 e", "r1 e f1", false);
        form("r2 e", "w2 e", false);
        form("w0 e", "c0 t1", false);
    }

    private static void likeness(String one, String other, int due) {
        TurtleChalk x = new TurtleChalk();
        Script.write(x, 0, one);
        Script.write(x, 1, other);
        Check.due(one + " and " + other + ": likeness", x.likeness(0, 1), due);
        Check.due(other + " and " + one + ": likeness", x.likeness(1, 0), due);
    }

    private static void likeness() {
        likeness("f1", "f2", 0);
        likeness("f1", "f1 f2", 66);
        likeness("f1 f2", "f2 f1", 50);
        likeness("f1 f2 f3", "f3 f1 f2", 66);
        likeness("f1 f2 f3 f4", "f4 f3 f2 f1", 25);
        likeness("f1 t1 f1 t1", "t1 f1 t1 f1", 75);
        likeness("f1 f1 f1", "f1", 50);
        likeness("r4 f2 t1 e", "s1=2 r4 fn1 t1 e", 66);
        likeness("s0=1 fn0", "s1=1 fn1", 100);
        likeness("fn2 s0=1 fn0", "s0=1 fn0", 40);
        likeness("f1 f2 f3 f4 f5", "f9 f1 f9 f3 f9 f5 f9", 50);
        likeness(Script.times(30, "f1"), Script.times(30, "f1"), 100);
        likeness(Script.times(30, "f1"), Script.times(29, "f1"), 98);
        likeness(Script.times(30, "f1"), Script.times(29, "f1") + " f2", 96);
        likeness(Script.times(30, "f1"), "f1", 6);
        likeness(Script.times(29, "f2") + " f1", "f1 " + Script.times(29, "f3"), 3);
    }

    private static void refusals() {
        TurtleChalk x = new TurtleChalk();
        Script.write(x, 0, "f1");
        for (int bad : new int[] {-1, 1, 30, Integer.MAX_VALUE, Integer.MIN_VALUE}) {
            Check.noIndex("haveOneForm, one " + bad, () -> x.haveOneForm(bad, 0));
            Check.noIndex("haveOneForm, other " + bad, () -> x.haveOneForm(0, bad));
            Check.noIndex("likeness, one " + bad, () -> x.likeness(bad, 0));
            Check.noIndex("likeness, other " + bad, () -> x.likeness(0, bad));
        }
    }
}
