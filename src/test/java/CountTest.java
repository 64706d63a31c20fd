/** Promise 18. */
final class CountTest {
    private static final Checks CHECKS = new Checks("CountTest");

    public static void main(String[] args) {
        LassoFinder x = new LassoFinder();
        counts(x, 0, 0, 0, 0);
        CHECKS.write(x, "a;{*[a=1|a=2]}{-}");
        counts(x, 0, 0, 0, 0);
        x.model();
        counts(x, 6, 15, 3, 2);
        CHECKS.write(x, "{-}{-}{-}{-}");
        x.model();
        counts(x, 16, 33, 4, 4);
        CHECKS.write(x, "#a0;b;{[a!1|a!2]}{*[a?b|a?b|~;(b)|<b=3;->]}");
        x.model();
        CHECKS.same("basic statements of all kinds", x.count(2), 8);
        CHECKS.formula(x, "{1}", 0);
        x.walk();
        CHECKS.same("a formula and walk change nothing", x.count(2), 8);
        CHECKS.write(x, "{");
        CHECKS.throwing("wrong", Checks.IAE, () -> x.model());
        counts(x, 0, 0, 0, 0);
        CHECKS.end();
    }

    private static void counts(LassoFinder x, int states, int steps, int basics, int processes) {
        CHECKS.same("states", x.count(0), states);
        CHECKS.same("steps", x.count(1), steps);
        CHECKS.same("basics", x.count(2), basics);
        CHECKS.same("processes", x.count(3), processes);
        int[] others = {-1, 4, 5, Integer.MAX_VALUE, Integer.MIN_VALUE};
        for (int what : others) {
            CHECKS.same("count " + what, x.count(what), -1);
        }
    }
}
