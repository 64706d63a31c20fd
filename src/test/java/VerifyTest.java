/** Promise 6: which formulas hold; MeaningTest has the words on each sign. */
final class VerifyTest {
    private static final Checks CHECKS = new Checks("VerifyTest");

    public static void main(String[] args) {
        turning();
        choosing();
        standing();
        lassoThen();
        twice();
        withoutFormula();
        CHECKS.end();
    }

    private static void holds(LassoFinder x, boolean due, String... formulas) {
        for (String text : formulas) {
            CHECKS.write(x, text);
            x.formula();
            CHECKS.same("verify of " + text, x.verify(), due);
            CHECKS.same("stem of " + text, x.stem() >= 0, !due);
            CHECKS.same("cycle of " + text, x.cycle() > 0, !due);
        }
    }

    /** One run: a is 0, 1, 0, 1, .. */
    private static void turning() {
        LassoFinder x = CHECKS.modelled("a;{*[a=1-a]}", 2);
        holds(x, true, "{1}", "{a=0}", "!{a}", "F{a}", "GF{a}", "G(F{a}&F{a=0})", "{a=0}U{a}", "{a}R({a=0}|{a})",
                "G({a}|{a=0})");
        holds(x, true, "{a}>{0}", "{0}>{0}>{0}", "!({a}U{a=0}&{a})", "{a}U{a=0}", "{0}R{1}", "!G{a=0}", "!FG{a}",
                "{0}R({0}R{1})");
        holds(x, true, "{1}|{0}&{0}", "{0}&{0}>{0}", "!{1}|{1}", "!{0}&{1}", "{1}U{a}U{a=0}", "G!{0}", "!F{0}&G{1}");
        holds(x, false, "{0}", "{a}", "!{a=0}", "G{a}", "F{a=2}", "FG{a}", "FG{a=0}", "{a=0}R{a=0}>{0}", "{a=0}U{a=2}",
                "{1}U{0}", "{a}R{a=0}");
        holds(x, false, "({1}|{0})&{0}", "({0}>{0})>{0}", "!({0}|{1})", "{a=0}&G{a=0}", "F{a}>G{a}", "{0}U{a}",
                "{0}R{a=0}");
    }

    /** At every state the choice between 1 and 2. */
    private static void choosing() {
        LassoFinder x = CHECKS.modelled("a;{*[a=1|a=2]}", 3);
        holds(x, true, "{a=0}&F({a=1}|{a=2})", "F{a}", "FG{a}", "GF{a=1}|F{a=2}", "G({a=1}>({a=1}R{a}))", "G{a<3}");
        holds(x, false, "F{a=1}", "F{a=2}", "GF{a=1}", "FG{a=1}", "GF{a=1}|{0}", "GF{a=1}>F{a=2}", "{a<2}U{a=2}",
                "G({a=1}>F{a=2})");
    }

    /** The places come to. */
    private static void standing() {
        LassoFinder x = CHECKS.modelled("{:A-;:B*[-;:C-;.];:D-;:E^F;-;:F<:G->}", 6);
        holds(x, true, "@0A", "F@0B", "F@0C", "F@0D", "F@0E", "F@0F", "F@0G", "G(!@0E|@0G&@0F)", "@0AU@0B",
                "F({1}&!@0A&!@0B&!@0C&!@0D&!@0E)");
        holds(x, false, "@0B", "G@0A", "F(@0A&@0B)", "FG@0F", "GF@0A");
        LassoFinder y = CHECKS.modelled("{:A-}{:B-}", 4);
        holds(y, true, "@0A&@1B", "F(!@0A&!@1B)");
        holds(y, false, "@0AU!@1B", "@1BU!@0A");
    }

    private static void lassoThen() {
        CHECKS.sentence("Whether the formula holds; if it doesn't, there is its lasso then.");
        LassoFinder x = CHECKS.modelled("a;{*[a=1|a=2]}", 3);
        CHECKS.write(x, "F{a=1}");
        x.formula();
        CHECKS.same("none before", x.stem(), -1);
        CHECKS.same("verify", x.verify(), false);
        CHECKS.same("stem", x.stem(), 1);
        CHECKS.same("cycle", x.cycle(), 1);
        CHECKS.same("the step", x.lasso(1, 1), 1);
        CHECKS.formula(x, "F{a}", 1);
        CHECKS.same("verify of one that holds", x.verify(), true);
        CHECKS.same("no lasso of it", x.stem(), -1);
    }

    private static void twice() {
        CHECKS.sentence("Whether the formula holds");
        LassoFinder x = CHECKS.modelled("a;{*[a=1|a=2]}", 3);
        CHECKS.write(x, "F{a=1}");
        x.formula();
        CHECKS.same("first", Checks.lasso(x, 0), "1 / 1");
        CHECKS.same("second", Checks.lasso(x, 0), "1 / 1");
        Checks.walk(x, 0, 1, 1);
        CHECKS.same("third, on a walk", Checks.lasso(x, 0), "1 / 1");
        CHECKS.same("the walk stays", x.value(0), 2);
        CHECKS.formula(x, "F{a}", 1);
        CHECKS.same("one that holds", x.verify() && x.verify(), true);
    }

    private static void withoutFormula() {
        CHECKS.sentence("IllegalStateException: there is no formula.");
        LassoFinder x = new LassoFinder();
        CHECKS.throwing("a new object", Checks.ISE, () -> x.verify());
        CHECKS.write(x, "{-}");
        x.model();
        CHECKS.throwing("a model alone", Checks.ISE, () -> x.verify());
        CHECKS.write(x, "{0}");
        CHECKS.throwing("only written", Checks.ISE, () -> x.verify());
        CHECKS.same("no lasso either", x.stem(), -1);
        x.formula();
        CHECKS.throwing("a formula", Checks.NOTHING, () -> x.verify());
        CHECKS.throwing("no text", Checks.IAE, () -> x.formula());
        CHECKS.throwing("behind a wrong formula", Checks.ISE, () -> x.verify());
        CHECKS.formula(x, "{0}", 0);
        CHECKS.write(x, "{-}");
        x.model();
        CHECKS.throwing("behind another model", Checks.ISE, () -> x.verify());
        CHECKS.throwing("no text", Checks.IAE, () -> x.model());
        CHECKS.throwing("no model", Checks.ISE, () -> x.verify());
    }
}
