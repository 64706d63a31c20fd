/** Promises 4 and 5: formulas that aren't wrong, and those that are. */
final class FormulaTest {
    private static final Checks CHECKS = new Checks("FormulaTest");

    public static void main(String[] args) {
        counts();
        wrongOnes();
        limits();
        withoutModel();
        whatStays();
        CHECKS.end();
    }

    private static LassoFinder model() {
        return CHECKS.modelled("a;#b2;{:A-;:B-}{:A-}", 6);
    }

    private static void counts() {
        LassoFinder x = model();
        CHECKS.formula(x, "{1}", 0);
        CHECKS.formula(x, "@0A", 0);
        CHECKS.formula(x, "@0B&@1A|!{a=b}>{b<2}", 0);
        CHECKS.formula(x, "G{1}", 1);
        CHECKS.formula(x, "F{1}", 1);
        CHECKS.formula(x, "{1}U{1}", 1);
        CHECKS.formula(x, "{1}R{1}", 1);
        CHECKS.formula(x, "GF{1}", 2);
        CHECKS.formula(x, "G(@0A>F@0B)", 2);
        CHECKS.formula(x, "{1}U{1}R{1}U{1}", 3);
        CHECKS.formula(x, "GFG{1}", 3);
        CHECKS.same("place of a right one", x.place(), -1);
    }

    private static void wrong(LassoFinder x, String... marked) {
        for (String text : marked) {
            CHECKS.wrongFormula(x, text);
        }
    }

    private static void wrongOnes() {
        LassoFinder x = model();
        wrong(x, "`", "`x", "`a", "`1", "G`", "!`", "{`}", "{1`", "{1`)}", "{`c}", "{1=1`=1}", "({1}`", "({1}`}",
                "({1})`)", "`)", "(`)");
        wrong(x, "@`", "@`2A", "@`8A", "@`A", "@0`C", "@1`B", "@0`a", "@0`", "@0A`A", "{1}`{1}", "{1}`!{1}",
                "{1}`G{1}");
        wrong(x, "{1}&`", "{1}|`", "{1}>`", "{1}U`", "{1}R`", "{1}&`&{1}", "`&{1}", "`U{1}", "{1}UG`", "{1}`;",
                "{1}`=1", "{a`:=1}");
        wrong(x, "{((((`(1)))))}", "{1+1+1+1+1+1+1+1+1+1+1+1+`1}");
        CHECKS.formula(x, "{((((1))))}&{((((a))))}", 0);
        CHECKS.formula(x, "{1+1+1+1+1+1+1+1+1+1+1+1}&{1+1+1+1+1+1+1+1+1+1+1+1}", 0);
    }

    private static void limits() {
        LassoFinder x = model();
        wrong(x, "GGG`G{1}", "GFG`F{1}", "G{1}&F{1}&({1}U{1})&({1}`R{1})", "G{1}&F{1}&({1}R{1})&({1}`U{1})",
                "{1}U{1}R{1}U{1}`U{1}");
        String eight = "{1}" + "&{1}".repeat(7);
        CHECKS.formula(x, eight, 0);
        CHECKS.formula(x, eight.replace("{1}", "@0A"), 0);
        wrong(x, eight + "&`{1}", eight + "|`@0A", eight.replace("{1}", "@0B") + ">`{1}", eight + "&`@9Z");
        CHECKS.formula(x, "!!!!!!!!{1}", 0);
        CHECKS.formula(x, "(((((((({1}))))))))", 0);
        CHECKS.formula(x, "!!!!!!!!{1}&!!!!!!!!{1}", 0);
        CHECKS.formula(x, "((((((({1}>{1})))))))", 0);
        CHECKS.formula(x, "((((((({1}U{1})))))))", 1);
        CHECKS.formula(x, "{1}>{1}>{1}>{1}>{1}>{1}>{1}>!{1}", 0);
        CHECKS.formula(x, "(((((((({1}&{1}|{1}))))))))", 0);
        CHECKS.formula(x, "!!!!!G!F{1}", 2);
        CHECKS.formula(x, "(((((((({((((1))))}))))))))", 0);
        wrong(x, "!!!!!!!!`!{1}", "!!!!!!!!`G{1}", "!!!!!!!!`F{1}", "!!!!!!!!`({1})", "((((((((`({1})))))))))",
                "((((((((`!{1}))))))))");
        wrong(x, "(((((((({1}`>{1}))))))))", "(((((((({1}`U{1}))))))))", "(((((((({1}`R{1}))))))))",
                "((((((({1}U{1}`U{1})))))))");
        wrong(x, "{1}>{1}>{1}>{1}>{1}>{1}>{1}>!`!{1}", "!!!!!!!(`!{1})");
    }

    private static void withoutModel() {
        LassoFinder x = new LassoFinder();
        CHECKS.write(x, "{-");
        CHECKS.throwing("a wrong model", Checks.IAE, () -> x.model());
        CHECKS.same("place of it", x.place(), 2);
        CHECKS.write(x, "{1}");
        CHECKS.throwing("a formula without a model", Checks.ISE, () -> x.formula());
        CHECKS.same("place without a model", x.place(), -1);
        CHECKS.write(x, "{-}");
        CHECKS.same("the text was empty", Checks.statesOf(x), 2);
    }

    private static void whatStays() {
        LassoFinder x = CHECKS.modelled("a;{*[a=1-a]}", 2);
        Checks.walk(x, 0);
        CHECKS.lasso(x, "G{a=0}", "/ 0 0");
        CHECKS.formula(x, "{1}", 0);
        CHECKS.same("stem behind a formula", x.stem(), -1);
        CHECKS.same("cycle behind a formula", x.cycle(), 0);
        CHECKS.same("the walk stays", x.value(0), 1);
        CHECKS.lasso(x, "G{a=0}", "/ 0 0");
        CHECKS.wrongFormula(x, "{1}`)");
        CHECKS.same("stem behind a wrong formula", x.stem(), -1);
        CHECKS.same("the walk stays behind a wrong formula", x.value(0), 1);
        CHECKS.throwing("truth behind a wrong formula", Checks.ISE, () -> x.truth(0));
        CHECKS.same("the model stays", x.count(0), 2);
        CHECKS.formula(x, "F{a}", 1);
    }
}
