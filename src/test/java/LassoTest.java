/** Promises 7, 8 and 9. */
final class LassoTest {
    private static final Checks CHECKS = new Checks("LassoTest");

    public static void main(String[] args) {
        shortestFirst();
        sameStateAgain();
        still();
        together();
        wrongIndexes();
        CHECKS.end();
    }

    private static void shortestFirst() {
        LassoFinder x = CHECKS.modelled("a;{*[a=1|a=2]}", 3);
        CHECKS.lasso(x, "{0}", "0 / 0");
        CHECKS.lasso(x, "F{a=1}", "1 / 1");
        CHECKS.lasso(x, "F{a=2}", "0 / 0");
        // The stem counts before the cycle: behind stem 1 a cycle of one step would do.
        CHECKS.lasso(x, "G!{a=2}", "0 / 1 0");
        CHECKS.lasso(x, "GF{a=1}>F{a=2}", "0 / 0");
        CHECKS.lasso(x, "!G(F{a=1}&F{a=2})", "0 / 1 0");
        CHECKS.lasso(x, "F(G{a=1}|G{a=2})", "0 / 1 0");
        CHECKS.lasso(x, "{a=0}", "holds");
        LassoFinder y = CHECKS.modelled("a;{*[a=1;a=0|a=2;a=3;a=0|a=4;a=0]}", 5);
        CHECKS.lasso(y, "G!{a=3}", "/ 1 0 0");
        CHECKS.lasso(y, "G!{a=4}", "/ 2 0");
        CHECKS.lasso(y, "{0}", "/ 0 0");
        CHECKS.lasso(y, "!F({a=4}|{a=2})", "/ 2 0");
    }

    private static void sameStateAgain() {
        LassoFinder x = CHECKS.modelled("a;{*[a=1;a=0|a=2;a=0]}", 3);
        CHECKS.lasso(x, "!G(F{a=1}&F{a=2})", "/ 0 0 1 0");
        CHECKS.lasso(x, "!(F{a=1}&FG!{a=1})", "0 0 / 1 0");
        CHECKS.lasso(x, "!(F{a=2}&FG!{a=2})", "1 0 / 0 0");
        CHECKS.lasso(x, "!(F({a=1}&F{a=2}))", "/ 0 0 1 0");
        // Two ways of being false, each with its own cycle of the same length.
        CHECKS.lasso(x, "!(G!{a=1}|G!{a=2})", "/ 0 0");
        CHECKS.lasso(x, "!(G!{a=2}|G!{a=1})", "/ 0 0");
        CHECKS.lasso(x, "!({a<2}U{a=2}&F{a=1})", "/ 0 0 1 0");
    }

    private static void still() {
        LassoFinder x = CHECKS.modelled("{-;-}", 3);
        CHECKS.lasso(x, "{0}", "0 0 / 0");
        CHECKS.same("basics", Checks.lasso(x, 1), "0 1 / -1");
        CHECKS.same("partners", Checks.lasso(x, 2), "-1 -1 / -1");
        CHECKS.same("stem", x.stem(), 2);
        CHECKS.same("cycle", x.cycle(), 1);
    }

    private static void together() {
        LassoFinder x = CHECKS.modelled("#a0;b;{*[a!1|-]}{-;*[a?b|a?b]}", 3);
        CHECKS.lasso(x, "G!{b}", "1 0 / 0");
        CHECKS.same("basics", Checks.lasso(x, 1), "2 0 / 0");
        CHECKS.same("partners", Checks.lasso(x, 2), "-1 3 / 3");
    }

    private static void wrongIndexes() {
        LassoFinder x = CHECKS.modelled("a;{*[a=1|a=2]}", 3);
        CHECKS.throwing("no formula", Checks.IOOBE, () -> x.lasso(0, 0));
        CHECKS.formula(x, "G!{a=2}", 1);
        CHECKS.throwing("not verified", Checks.IOOBE, () -> x.lasso(0, 0));
        CHECKS.same("no stem yet", x.stem(), -1);
        CHECKS.same("no cycle yet", x.cycle(), 0);
        x.verify();
        CHECKS.same("stem", x.stem(), 1);
        CHECKS.same("cycle", x.cycle(), 2);
        int[] steps = {-1, 3, 4, Integer.MAX_VALUE, Integer.MIN_VALUE};
        for (int i : steps) {
            CHECKS.throwing("step " + i, Checks.IOOBE, () -> x.lasso(i, 0));
        }
        int[] whats = {-1, 3, 4, Integer.MAX_VALUE, Integer.MIN_VALUE};
        for (int what : whats) {
            CHECKS.throwing("what " + what, Checks.IOOBE, () -> x.lasso(0, what));
        }
        for (int i = 0; i < 3; i++) {
            int step = i;
            for (int what = 0; what < 3; what++) {
                int asked = what;
                CHECKS.throwing("step and what", Checks.NOTHING, () -> x.lasso(step, asked));
            }
        }
        CHECKS.formula(x, "{1}", 0);
        CHECKS.same("one that holds", x.verify(), true);
        CHECKS.throwing("one that holds", Checks.IOOBE, () -> x.lasso(0, 0));
    }
}
