/** Promise 17; MeaningTest asks it for each sign of formulas. */
final class TruthTest {
    private static final Checks CHECKS = new Checks("TruthTest");

    public static void main(String[] args) {
        likeTheWalk();
        behindTheFirstSteps();
        stillRound();
        longestWalk();
        besideALasso();
        withoutWalkOrFormula();
        throwsInOrder();
        numbersOfSteps();
        anotherState();
        anotherHolder();
        CHECKS.end();
    }

    private static void truths(LassoFinder x, int k, boolean due, String... formulas) {
        for (String text : formulas) {
            CHECKS.write(x, text);
            x.formula();
            CHECKS.same("truth(" + k + ") of " + text, x.truth(k), due);
        }
    }

    private static void likeTheWalk() {
        CHECKS.sentence("Whether the formula is true of the run that goes like the walk");
        LassoFinder x = CHECKS.modelled("a;{*[a=1|a=2]}", 3);
        Checks.walk(x, 0, 1, 0);
        truths(x, 1, true, "{a=0}", "F{a=1}", "GF{a=1}", "GF{a=2}", "{a<2}U{a=2}", "!FG{a=1}", "G({a=1}>F{a=2})",
                "FG{a}", "{a=2}R{a<3}");
        truths(x, 1, false, "{a}", "G{a=0}", "FG{a=2}", "F{a=3}", "{a=0}U{a=2}", "{a=1}R{a=0}", "{0}R{a<2}");
        // Another run than that of the lasso, and one of those that the formula isn't about.
        Checks.walk(x, 1, 1);
        truths(x, 1, true, "G!{a=1}", "F{a=2}");
        truths(x, 1, false, "F{a=1}", "{a=0}U{a=1}");
    }

    private static void behindTheFirstSteps() {
        CHECKS.sentence("and then for ever as it went behind its first k steps");
        LassoFinder x = CHECKS.modelled("a;{*[a=1|a=2]}", 3);
        Checks.walk(x, 0, 1, 0, 0);
        truths(x, 3, true, "FG{a=1}", "F{a=2}", "!GF{a=2}");
        truths(x, 1, true, "GF{a=2}", "!FG{a=1}", "F{a=2}");
        truths(x, 3, false, "GF{a=2}", "G({a=1}>F{a=2})", "!F({a=1}&!F{a=2})");
        LassoFinder y = CHECKS.modelled("a;{*[a=1;a=0|a=2;a=0]}", 3);
        Checks.walk(y, 0, 0, 1, 0);
        truths(y, 0, true, "GF{a=1}", "GF{a=2}", "G({a=1}>F{a=2})");
        truths(y, 2, true, "F{a=1}", "GF{a=2}", "FG!{a=1}");
        truths(y, 2, false, "GF{a=1}", "G({a=2}>F{a=1})");
    }

    private static void stillRound() {
        CHECKS.sentence("as it went behind its first k steps .. (STILL counts)");
        LassoFinder x = CHECKS.modelled("{:A-;:B-}", 3);
        Checks.walk(x, 0, 0, 0);
        truths(x, 2, true, "@0A", "@0AU@0B", "F@0B", "FG!@0B", "G(@0A>F@0B)");
        truths(x, 2, false, "G@0A", "FG@0B", "GF@0A", "@0BR@0A");
        x.go(0);
        truths(x, 2, true, "FG(!@0A&!@0B)");
        truths(x, 3, true, "FG(!@0A&!@0B)");
    }

    private static void longestWalk() {
        CHECKS.sentence("k isn't 0 .. the walk's steps less 1");
        LassoFinder x = CHECKS.modelled("a;{*[a=1-a|a=a]}", 2);
        x.walk();
        for (int i = 0; i < 60; i++) {
            x.go(i < 58 ? 0 : 1);
        }
        CHECKS.same("a", x.value(0), 0);
        truths(x, 0, true, "GF{a}", "GF{a=0}");
        truths(x, 56, true, "GF{a}", "GF{a=0}");
        truths(x, 58, true, "F{a}", "FG{a=0}");
        truths(x, 59, true, "F{a}", "FG{a=0}");
        truths(x, 59, false, "GF{a}", "G{a=0}");
        CHECKS.throwing("as many as its steps", Checks.IAE, () -> x.truth(60));
        CHECKS.throwing("another state", Checks.IAE, () -> x.truth(57));
    }

    private static void besideALasso() {
        CHECKS.sentence("of the run that goes like the walk");
        LassoFinder x = CHECKS.modelled("a;{*[a=1|a=2]}", 3);
        Checks.walk(x, 0, 1, 0);
        CHECKS.lasso(x, "GF{a=2}", "0 / 0");
        CHECKS.same("truth", x.truth(1), true);
        CHECKS.same("the lasso stays", x.stem(), 1);
        CHECKS.lasso(x, "F{a}", "holds");
        CHECKS.same("of one that holds", x.truth(1), true);
    }

    private static void withoutWalkOrFormula() {
        CHECKS.sentence("IllegalStateException: there is no walk, or no formula");
        LassoFinder x = new LassoFinder();
        CHECKS.throwing("a new object", Checks.ISE, () -> x.truth(0));
        CHECKS.write(x, "a;{*[a=a]}");
        x.model();
        CHECKS.throwing("neither", Checks.ISE, () -> x.truth(0));
        CHECKS.formula(x, "{1}", 0);
        CHECKS.throwing("no walk", Checks.ISE, () -> x.truth(0));
        Checks.walk(x, 0);
        CHECKS.same("both", x.truth(0), true);
        CHECKS.wrongFormula(x, "`");
        CHECKS.throwing("no formula any more", Checks.ISE, () -> x.truth(0));
        CHECKS.formula(x, "{0}", 0);
        CHECKS.same("both again", x.truth(0), false);
        CHECKS.write(x, "a;{*[a=a]}");
        x.model();
        CHECKS.throwing("neither behind another model", Checks.ISE, () -> x.truth(0));
        Checks.walk(x, 0);
        CHECKS.throwing("no formula", Checks.ISE, () -> x.truth(0));
    }

    private static void throwsInOrder() {
        CHECKS.sentence("IllegalStateException: there is no walk, or no formula; else IllegalArgumentException");
        LassoFinder x = CHECKS.modelled("a;{*[a=1-a]}", 2);
        for (int k : new int[] {-1, 0, 1, Integer.MAX_VALUE, Integer.MIN_VALUE}) {
            CHECKS.throwing("neither, k " + k, Checks.ISE, () -> x.truth(k));
        }
        x.walk();
        CHECKS.throwing("no formula, k -1", Checks.ISE, () -> x.truth(-1));
        CHECKS.throwing("no formula, k 0", Checks.ISE, () -> x.truth(0));
        x.go(0);
        CHECKS.throwing("no formula, another state", Checks.ISE, () -> x.truth(0));
        LassoFinder y = CHECKS.modelled("a;{*[a=1-a]}", 2);
        CHECKS.formula(y, "{1}", 0);
        CHECKS.throwing("no walk, k -1", Checks.ISE, () -> y.truth(-1));
    }

    private static void numbersOfSteps() {
        CHECKS.sentence("IllegalArgumentException: k isn't 0 .. the walk's steps less 1");
        LassoFinder x = CHECKS.modelled("a;{*[a=a]}", 1);
        CHECKS.formula(x, "{1}", 0);
        x.walk();
        CHECKS.throwing("no steps", Checks.IAE, () -> x.truth(0));
        CHECKS.throwing("no steps, -1", Checks.IAE, () -> x.truth(-1));
        x.go(0);
        x.go(0);
        x.go(0);
        CHECKS.throwing("0 of three", Checks.NOTHING, () -> x.truth(0));
        CHECKS.throwing("2 of three", Checks.NOTHING, () -> x.truth(2));
        for (int k : new int[] {-1, 3, 4, 60, 61, Integer.MAX_VALUE, Integer.MIN_VALUE}) {
            CHECKS.throwing(k + " of three", Checks.IAE, () -> x.truth(k));
        }
        x.walk();
        x.go(0);
        CHECKS.throwing("0 of one", Checks.NOTHING, () -> x.truth(0));
        CHECKS.throwing("1 of one", Checks.IAE, () -> x.truth(1));
    }

    private static void anotherState() {
        CHECKS.sentence("or its state then (all of it, with who holds) wasn't that of now");
        differs("a;{[-|-];*[a=1-a]}", 0, 0);
        differs("a;{-;a=0}", 0, 0);
        differs("#a1;{*[a!0]}", 0);
        differs("#a1;b;{*[a!0;a?b]}", 0);
        LassoFinder x = CHECKS.modelled("a;{*[a=1-a]}", 2);
        CHECKS.formula(x, "{1}", 0);
        Checks.walk(x, 0, 0, 0, 0);
        for (int k = 0; k < 4; k++) {
            int asked = k;
            CHECKS.throwing("k " + k, k % 2 == 0 ? Checks.NOTHING : Checks.IAE, () -> x.truth(asked));
        }
        // Messages in another order, at the same point.
        LassoFinder y = CHECKS.modelled("#a2;b;{a!1;a!2;*[a?b;a!b;b=0]}", 8);
        CHECKS.formula(y, "{1}", 0);
        Checks.walk(y, 0, 0, 0, 0, 0);
        CHECKS.throwing("turned round once", Checks.IAE, () -> y.truth(2));
        y.go(0);
        y.go(0);
        y.go(0);
        CHECKS.throwing("turned round twice", Checks.NOTHING, () -> y.truth(2));
        CHECKS.throwing("turned round once more", Checks.IAE, () -> y.truth(5));
    }

    /** Behind this way no earlier state is that of now. */
    private static void differs(String model, int... way) {
        LassoFinder x = new LassoFinder();
        CHECKS.write(x, model);
        x.model();
        CHECKS.formula(x, "{1}", 0);
        Checks.walk(x, way);
        for (int k = 0; k < way.length; k++) {
            int asked = k;
            CHECKS.throwing(model + ", k " + k, Checks.IAE, () -> x.truth(asked));
        }
    }

    private static void anotherHolder() {
        CHECKS.sentence("(all of it, with who holds)");
        LassoFinder x = CHECKS.modelled("{[-;^B|<-;:B->;^B]}", 3);
        CHECKS.formula(x, "{1}", 0);
        Checks.walk(x, 0, 0);
        CHECKS.same("the same point", x.point(0), 3);
        CHECKS.same("held now", x.holder(), 0);
        CHECKS.throwing("not held then", Checks.IAE, () -> x.truth(1));
        x.go(0);
        CHECKS.throwing("held then, too", Checks.NOTHING, () -> x.truth(2));
        CHECKS.throwing("not held then, still", Checks.IAE, () -> x.truth(1));
    }
}
