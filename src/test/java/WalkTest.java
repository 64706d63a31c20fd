/** Promises 10, 11 and 12; StepTest has the rules of the steps. */
final class WalkTest {
    private static final Checks CHECKS = new Checks("WalkTest");
    private static final String TOO_BIG = "a;b;c;{*[a=a+1]}{*[b=b+1]}{*[c=c+1]}";

    public static void main(String[] args) {
        beginsAnew();
        walkWithoutModel();
        howManySteps();
        stepsWithoutWalk();
        doesAStep();
        goWithoutWalk();
        noSuchStep();
        sixtySteps();
        sixtyOfStill();
        throwsInOrder();
        refusedChangesNothing();
        CHECKS.end();
    }

    private static void beginsAnew() {
        CHECKS.sentence("A walk begins anew at the model's first state.");
        LassoFinder x = CHECKS.modelled("a=2;#b1;{<b!5;a=3>}", 3);
        for (int i = 0; i < 3; i++) {
            x.walk();
            CHECKS.same("value", x.value(0), 2);
            CHECKS.same("messages", x.value(1), 0);
            CHECKS.same("point", x.point(0), 0);
            CHECKS.same("holder", x.holder(), -1);
            CHECKS.same("steps", x.steps(), 1);
            for (int k = 0; k < i; k++) {
                x.go(0);
            }
        }
        CHECKS.same("before it begins anew", x.value(0), 3);
        x.walk();
        CHECKS.same("behind that", x.value(0), 2);
        CHECKS.formula(x, "{1}", 0);
        CHECKS.throwing("its steps are gone, too", Checks.IAE, () -> x.truth(0));
    }

    private static void walkWithoutModel() {
        CHECKS.sentence("IllegalStateException: there is no model.");
        LassoFinder x = new LassoFinder();
        CHECKS.throwing("a new object", Checks.ISE, () -> x.walk());
        CHECKS.write(x, "{-}");
        CHECKS.throwing("only written", Checks.ISE, () -> x.walk());
        x.model();
        CHECKS.throwing("a model", Checks.NOTHING, () -> x.walk());
        CHECKS.throwing("once more", Checks.NOTHING, () -> x.walk());
        CHECKS.throwing("a wrong model", Checks.IAE, () -> x.model());
        CHECKS.throwing("behind a wrong model", Checks.ISE, () -> x.walk());
        CHECKS.write(x, TOO_BIG);
        CHECKS.throwing("one too big", Checks.UOE, () -> x.model());
        CHECKS.throwing("behind one too big", Checks.ISE, () -> x.walk());
        CHECKS.same("there is none", x.steps(), 0);
    }

    private static void howManySteps() {
        CHECKS.sentence("How many steps the state of the walk has");
        LassoFinder x = CHECKS.modelled("a;{a=1;[a=2|a=3]}{-}", 8);
        x.walk();
        CHECKS.same("at first", x.steps(), 2);
        x.go(0);
        CHECKS.same("behind one", x.steps(), 3);
        x.go(2);
        CHECKS.same("behind two", x.steps(), 2);
        x.go(0);
        CHECKS.same("STILL alone", x.steps(), 1);
        x.go(0);
        CHECKS.same("STILL again", x.steps(), 1);
    }

    private static void stepsWithoutWalk() {
        CHECKS.sentence("0 without a walk");
        LassoFinder x = new LassoFinder();
        CHECKS.same("a new object", x.steps(), 0);
        CHECKS.write(x, "{-}");
        x.model();
        CHECKS.same("a model alone", x.steps(), 0);
        x.walk();
        CHECKS.same("a walk", x.steps(), 1);
        CHECKS.write(x, "{-}");
        x.model();
        CHECKS.same("another model", x.steps(), 0);
    }

    private static void doesAStep() {
        CHECKS.sentence("The walk does a step of its state: its basic statement (of STILL -1).");
        LassoFinder x = CHECKS.modelled("a;{a=1;[a=2|a=3]}{-}", 8);
        x.walk();
        CHECKS.same("the first of two", x.go(0), 0);
        CHECKS.same("the second of three", x.go(1), 2);
        CHECKS.same("a", x.value(0), 3);
        CHECKS.same("the only one", x.go(0), 3);
        CHECKS.same("STILL", x.go(0), -1);
        CHECKS.same("STILL again", x.go(0), -1);
        LassoFinder y = CHECKS.modelled("#a0;b;{a?b}{a!4}", 2);
        y.walk();
        CHECKS.same("the SEND of two", y.go(0), 1);
        CHECKS.same("what was received", y.value(1), 4);
    }

    private static void goWithoutWalk() {
        CHECKS.sentence("IllegalStateException: there is no walk");
        LassoFinder x = new LassoFinder();
        CHECKS.throwing("a new object", Checks.ISE, () -> x.go(0));
        CHECKS.write(x, "{-}");
        x.model();
        CHECKS.throwing("a model alone", Checks.ISE, () -> x.go(0));
        x.walk();
        CHECKS.throwing("a walk", Checks.NOTHING, () -> x.go(0));
        CHECKS.write(x, "{-}");
        x.model();
        CHECKS.throwing("another model", Checks.ISE, () -> x.go(0));
    }

    private static void noSuchStep() {
        CHECKS.sentence("else IndexOutOfBoundsException: no such step");
        LassoFinder x = CHECKS.modelled("{*[-|-|-]}", 1);
        x.walk();
        CHECKS.throwing("step 0", Checks.NOTHING, () -> x.go(0));
        CHECKS.throwing("step 2", Checks.NOTHING, () -> x.go(2));
        for (int step : new int[] {-1, 3, 4, Integer.MAX_VALUE, Integer.MIN_VALUE}) {
            CHECKS.throwing("step " + step, Checks.IOOBE, () -> x.go(step));
        }
        LassoFinder y = CHECKS.modelled("{-}", 2);
        Checks.walk(y, 0);
        CHECKS.throwing("step 1 beside STILL", Checks.IOOBE, () -> y.go(1));
        CHECKS.throwing("step -1 beside STILL", Checks.IOOBE, () -> y.go(-1));
    }

    private static void sixtySteps() {
        CHECKS.sentence("else UnsupportedOperationException: it did 60 steps");
        LassoFinder x = CHECKS.modelled("a;{*[a=a+1]}", 8);
        x.walk();
        for (int i = 0; i < 60; i++) {
            CHECKS.same("step " + i, x.go(0), 0);
        }
        CHECKS.throwing("the 61st", Checks.UOE, () -> x.go(0));
        CHECKS.throwing("the 61st, again", Checks.UOE, () -> x.go(0));
        CHECKS.same("it stands where it stood", x.value(0), 4);
        CHECKS.same("steps", x.steps(), 1);
        x.walk();
        CHECKS.same("anew", x.go(0), 0);
        CHECKS.same("a", x.value(0), 1);
    }

    private static void sixtyOfStill() {
        CHECKS.sentence("(STILL counts)");
        LassoFinder x = CHECKS.modelled("{-}", 2);
        x.walk();
        x.go(0);
        for (int i = 1; i < 60; i++) {
            CHECKS.same("STILL " + i, x.go(0), -1);
        }
        CHECKS.throwing("the 61st", Checks.UOE, () -> x.go(0));
        // Steps that were refused don't count.
        LassoFinder y = CHECKS.modelled("{*[-]}", 1);
        y.walk();
        for (int i = 0; i < 60; i++) {
            CHECKS.throwing("no such step", Checks.IOOBE, () -> y.go(1));
            CHECKS.throwing("step " + i, Checks.NOTHING, () -> y.go(0));
        }
        CHECKS.throwing("the 61st", Checks.UOE, () -> y.go(0));
    }

    private static void throwsInOrder() {
        CHECKS.sentence("IllegalStateException: there is no walk; else IndexOutOfBoundsException: no such step; else");
        LassoFinder x = CHECKS.modelled("{*[-]}", 1);
        CHECKS.throwing("no walk, no such step", Checks.ISE, () -> x.go(-1));
        CHECKS.throwing("no walk, no such step", Checks.ISE, () -> x.go(1));
        x.walk();
        for (int i = 0; i < 60; i++) {
            x.go(0);
        }
        CHECKS.throwing("no such step, behind 60", Checks.IOOBE, () -> x.go(1));
        CHECKS.throwing("no such step, behind 60", Checks.IOOBE, () -> x.go(-1));
        CHECKS.throwing("behind 60", Checks.UOE, () -> x.go(0));
    }

    private static void refusedChangesNothing() {
        CHECKS.sentence("no such step");
        LassoFinder x = CHECKS.modelled("a;{a=1;a=2}{-}", 6);
        Checks.walk(x, 0);
        CHECKS.throwing("step 2", Checks.IOOBE, () -> x.go(2));
        CHECKS.same("a", x.value(0), 1);
        CHECKS.same("point", x.point(0), 1);
        CHECKS.same("the other point", x.point(1), 0);
        CHECKS.same("steps", x.steps(), 2);
        CHECKS.same("the next step", x.go(0), 1);
    }
}
