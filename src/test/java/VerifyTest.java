/** Promise 6: which formulas hold. */
final class VerifyTest {
    private static final Checks CHECKS = new Checks("VerifyTest");

    public static void main(String[] args) {
        turning();
        choosing();
        standing();
        twice();
        without();
        CHECKS.end();
    }

    private static void holds(LassoFinder x, boolean due, String... formulas) {
        for (String text : formulas) {
            CHECKS.write(x, text);
            x.formula();
            CHECKS.same("verify of " + text, x.verify(), due);
            CHECKS.same("stem of " + text, x.stem() >= 0, !due);
            CHECKS.same("cycle of " + text, x.cycle() > 0, !due);
        }
    }

    /** One run: a is 0, 1, 0, 1, .. */
    private static void turning() {
        LassoFinder x = CHECKS.modelled("a;{*[a=1-a]}", 2);
        holds(x, true, "{1}", "{a=0}", "!{a}", "F{a}", "GF{a}", "G(F{a}&F{a=0})", "{a=0}U{a}", "{a}R({a=0}|{a})",
                "G({a}|{a=0})");
        holds(x, true, "{a}>{0}", "{0}>{0}>{0}", "!({a}U{a=0}&{a})", "{a}U{a=0}", "{0}R{1}", "!G{a=0}", "!FG{a}",
                "{0}R({0}R{1})");
        holds(x, true, "{1}|{0}&{0}", "{0}&{0}>{0}", "!{1}|{1}", "!{0}&{1}", "{1}U{a}U{a=0}", "G!{0}", "!F{0}&G{1}");
        holds(x, false, "{0}", "{a}", "!{a=0}", "G{a}", "F{a=2}", "FG{a}", "FG{a=0}", "{a=0}R{a=0}>{0}", "{a=0}U{a=2}",
                "{1}U{0}", "{a}R{a=0}");
        holds(x, false, "({1}|{0})&{0}", "({0}>{0})>{0}", "!({0}|{1})", "{a=0}&G{a=0}", "F{a}>G{a}", "{0}U{a}",
                "{0}R{a=0}");
    }

    /** At every state the choice between 1 and 2. */
    private static void choosing() {
        LassoFinder x = CHECKS.modelled("a;{*[a=1|a=2]}", 3);
        holds(x, true, "{a=0}&F({a=1}|{a=2})", "F{a}", "FG{a}", "GF{a=1}|F{a=2}", "G({a=1}>({a=1}R{a}))", "G{a<3}");
        holds(x, false, "F{a=1}", "F{a=2}", "GF{a=1}", "FG{a=1}", "GF{a=1}|{0}", "GF{a=1}>F{a=2}", "{a<2}U{a=2}",
                "G({a=1}>F{a=2})");
    }

    /** The places come to. */
    private static void standing() {
        LassoFinder x = CHECKS.modelled("{:A-;:B*[-;:C-;.];:D-;:E^F;-;:F<:G->}", 6);
        holds(x, true, "@0A", "F@0B", "F@0C", "F@0D", "F@0E", "F@0F", "F@0G", "G(!@0E|@0G&@0F)", "@0AU@0B",
                "F({1}&!@0A&!@0B&!@0C&!@0D&!@0E)");
        holds(x, false, "@0B", "G@0A", "F(@0A&@0B)", "FG@0F", "GF@0A");
        LassoFinder y = CHECKS.modelled("{:A-}{:B-}", 4);
        holds(y, true, "@0A&@1B", "F(!@0A&!@1B)");
        holds(y, false, "@0AU!@1B", "@1BU!@0A");
    }

    private static void twice() {
        LassoFinder x = CHECKS.modelled("a;{*[a=1|a=2]}", 3);
        CHECKS.write(x, "F{a=1}");
        x.formula();
        CHECKS.same("first", Checks.lasso(x, 0), "1 / 1");
        CHECKS.same("second", Checks.lasso(x, 0), "1 / 1");
        x.walk();
        CHECKS.same("a walk changes no lasso", x.stem(), 1);
    }

    private static void without() {
        LassoFinder x = new LassoFinder();
        CHECKS.throwing("no model", Checks.ISE, () -> x.verify());
        CHECKS.write(x, "{-}");
        x.model();
        CHECKS.throwing("no formula", Checks.ISE, () -> x.verify());
        CHECKS.same("no lasso either", x.stem(), -1);
    }
}
