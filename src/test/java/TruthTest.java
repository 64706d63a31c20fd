/** Promise 17. */
final class TruthTest {
    private static final Checks CHECKS = new Checks("TruthTest");

    public static void main(String[] args) {
        rounds();
        stillAndStem();
        allOfTheState();
        wrongOnes();
        CHECKS.end();
    }

    private static void truths(LassoFinder x, int k, boolean due, String... formulas) {
        for (String text : formulas) {
            CHECKS.write(x, text);
            x.formula();
            CHECKS.same("truth of " + text, x.truth(k), due);
        }
    }

    private static void rounds() {
        LassoFinder x = CHECKS.modelled("a;{*[a=1|a=2]}", 3);
        Checks.walk(x, 0, 1, 0);
        truths(x, 1, true, "{a=0}", "F{a=1}", "GF{a=1}", "GF{a=2}", "{a<2}U{a=2}", "!FG{a=1}", "G({a=1}>F{a=2})",
                "FG{a}", "{a=2}R{a<3}");
        truths(x, 1, false, "{a}", "G{a=0}", "FG{a=2}", "F{a=3}", "{a=0}U{a=2}", "{a=1}R{a=0}", "{0}R{a<2}");
        x.go(0);
        truths(x, 3, true, "FG{a=1}", "F{a=2}", "!GF{a=2}");
        truths(x, 1, true, "GF{a=2}", "!FG{a=1}");
        truths(x, 3, false, "GF{a=2}", "G({a=1}>F{a=2})", "!F({a=1}&!F{a=2})");
        // It looks at the walk, not at a lasso.
        CHECKS.lasso(x, "GF{a=2}", "0 / 0");
        CHECKS.same("beside a lasso", x.truth(1), true);
    }

    private static void stillAndStem() {
        LassoFinder x = CHECKS.modelled("{:A-;:B-}", 3);
        Checks.walk(x, 0, 0, 0);
        truths(x, 2, true, "@0A", "@0AU@0B", "F@0B", "FG!@0B", "G(@0A>F@0B)");
        truths(x, 2, false, "G@0A", "FG@0B", "GF@0A", "@0BR@0A");
    }

    /** The same variables and points, but a holder in one. */
    private static void allOfTheState() {
        LassoFinder x = CHECKS.modelled("{[-;^B|<-;:B->;^B]}", 3);
        CHECKS.formula(x, "{1}", 0);
        Checks.walk(x, 0, 0);
        CHECKS.same("the same point", x.point(0), 3);
        CHECKS.same("held now", x.holder(), 0);
        CHECKS.throwing("not held then", Checks.IAE, () -> x.truth(1));
        x.go(0);
        CHECKS.throwing("held then, too", Checks.NOTHING, () -> x.truth(2));
        CHECKS.throwing("not held then, still", Checks.IAE, () -> x.truth(1));
    }

    private static void wrongOnes() {
        LassoFinder x = new LassoFinder();
        CHECKS.throwing("nothing", Checks.ISE, () -> x.truth(0));
        CHECKS.write(x, "a;{*[a=1-a]}");
        x.model();
        CHECKS.throwing("no walk, no formula", Checks.ISE, () -> x.truth(0));
        CHECKS.formula(x, "{1}", 0);
        CHECKS.throwing("no walk", Checks.ISE, () -> x.truth(0));
        x.walk();
        CHECKS.throwing("no steps", Checks.IAE, () -> x.truth(0));
        x.go(0);
        CHECKS.throwing("another state", Checks.IAE, () -> x.truth(0));
        CHECKS.throwing("the state of now itself", Checks.IAE, () -> x.truth(1));
        x.go(0);
        CHECKS.same("back", x.truth(0), true);
        int[] none = {-1, 1, 2, 3, Integer.MAX_VALUE, Integer.MIN_VALUE};
        for (int k : none) {
            CHECKS.throwing("k " + k, Checks.IAE, () -> x.truth(k));
        }
        CHECKS.wrongFormula(x, "`");
        CHECKS.throwing("no formula", Checks.ISE, () -> x.truth(0));
        CHECKS.throwing("no formula, wrong k", Checks.ISE, () -> x.truth(-1));
    }
}
