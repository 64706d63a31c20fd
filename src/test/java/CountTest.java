/** Promise 18. */
final class CountTest {
    private static final Checks CHECKS = new Checks("CountTest");

    public static void main(String[] args) {
        ofTheModel();
        steps();
        basics();
        processes();
        withoutModel();
        anotherWhat();
        CHECKS.end();
    }

    private static void counts(LassoFinder x, int states, int steps, int basics, int processes) {
        CHECKS.same("states", x.count(0), states);
        CHECKS.same("steps", x.count(1), steps);
        CHECKS.same("basic statements", x.count(2), basics);
        CHECKS.same("processes", x.count(3), processes);
    }

    private static void ofTheModel() {
        CHECKS.sentence("what 0 how many states, 1 how many steps they have, 2 basic statements, 3 processes");
        counts(CHECKS.modelled("{-}", 2), 2, 2, 1, 1);
        counts(CHECKS.modelled("a;{*[a=1|a=2]}{-}", 6), 6, 15, 3, 2);
        counts(CHECKS.modelled("{-}{-}{-}{-}", 16), 16, 33, 4, 4);
        LassoFinder x = CHECKS.modelled("{-;-;-}", 4);
        CHECKS.formula(x, "{0}", 0);
        x.verify();
        Checks.walk(x, 0, 0);
        counts(x, 4, 4, 3, 1);
        CHECKS.wrongFormula(x, "`");
        counts(x, 4, 4, 3, 1);
        CHECKS.write(x, "{*[-]}");
        x.model();
        counts(x, 1, 1, 1, 1);
    }

    private static void steps() {
        CHECKS.sentence("1 how many steps they have");
        // STILL is one; two to the same state are two; each pair is one.
        counts(CHECKS.modelled("a;{(a)}", 1), 1, 1, 1, 1);
        counts(CHECKS.modelled("{*[-|-|-]}", 1), 1, 3, 3, 1);
        counts(CHECKS.modelled("#a0;b;{a!0}{a?b}{a?b}", 3), 3, 4, 3, 3);
        counts(CHECKS.modelled("#a0;b;{*[a!0|a!0]}{*[a?b|a?b]}", 1), 1, 4, 4, 2);
    }

    private static void basics() {
        CHECKS.sentence("2 basic statements");
        LassoFinder x = new LassoFinder();
        CHECKS.write(x, "#a1;b;{*[b=1|(b);-;.|a!1|<a?b;^A>|~;[[-]];:A-]}{-}");
        x.model();
        CHECKS.same("of all kinds", x.count(2), 9);
        LassoFinder y = CHECKS.modelled("{-" + ";-".repeat(29) + "}{(0)" + ";-".repeat(17) + "}", 31);
        CHECKS.same("the most", y.count(2), 48);
    }

    private static void processes() {
        CHECKS.sentence("3 processes");
        for (int processes = 1; processes <= 4; processes++) {
            LassoFinder x = CHECKS.modelled("{-}".repeat(processes), 1 << processes);
            CHECKS.same("processes", x.count(3), processes);
        }
    }

    private static void withoutModel() {
        CHECKS.sentence("0 without a model");
        LassoFinder x = new LassoFinder();
        counts(x, 0, 0, 0, 0);
        CHECKS.write(x, "{-}");
        counts(x, 0, 0, 0, 0);
        x.model();
        counts(x, 2, 2, 1, 1);
        CHECKS.write(x, "{-}{-");
        CHECKS.throwing("a wrong one", Checks.IAE, () -> x.model());
        counts(x, 0, 0, 0, 0);
        CHECKS.write(x, "{-}");
        x.model();
        CHECKS.write(x, "a;b;c;{*[a=a+1]}{*[b=b+1]}{*[c=c+1]}");
        CHECKS.throwing("one too big", Checks.UOE, () -> x.model());
        counts(x, 0, 0, 0, 0);
    }

    private static void anotherWhat() {
        CHECKS.sentence("-1 for another what");
        LassoFinder x = CHECKS.modelled("{-}", 2);
        for (int what : new int[] {-1, 4, 5, Integer.MAX_VALUE, Integer.MIN_VALUE}) {
            CHECKS.same("count " + what, x.count(what), -1);
            CHECKS.same("count " + what + " without a model", new LassoFinder().count(what), -1);
        }
    }
}
