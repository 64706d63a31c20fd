/**
 * Promises 4 and 5, with the words of "Terms" on where a formula's text is wrong: each with the last that is right and
 * the first that is wrong. The mark ` stands before the character at which a text is wrong.
 */
final class FormulaTest {
    private static final Checks CHECKS = new Checks("FormulaTest");

    public static void main(String[] args) {
        counts();
        twoSides();
        units();
        ends();
        expressions();
        processNumbers();
        labels();
        fourTemporals();
        nineAtoms();
        deepUnits();
        deepSides();
        depthEnds();
        textIsEmpty();
        withoutModel();
        throwsInOrder();
        noLassoThen();
        walkStays();
        noFormulaThen();
        CHECKS.end();
    }

    private static LassoFinder model() {
        return CHECKS.modelled("a;#b2;{:A-;:B-}{:A-}", 6);
    }

    private static void counts() {
        CHECKS.sentence("how many U, R, G and F it has");
        LassoFinder x = model();
        CHECKS.formula(x, "{1}", 0);
        CHECKS.formula(x, "@0A", 0);
        CHECKS.formula(x, "@0B&@1A|!{a=b}>{b<2}", 0);
        CHECKS.formula(x, "G{1}", 1);
        CHECKS.formula(x, "F{1}", 1);
        CHECKS.formula(x, "{1}U{1}", 1);
        CHECKS.formula(x, "{1}R{1}", 1);
        CHECKS.formula(x, "GF{1}", 2);
        CHECKS.formula(x, "G(@0A>F@0B)", 2);
        CHECKS.formula(x, "{1}U{1}R{1}U{1}", 3);
        CHECKS.formula(x, "GFG{1}", 3);
        CHECKS.formula(x, "G{1}&F{1}|{1}R{1}", 3);
        CHECKS.formula(x, "{1}", 0);
    }

    private static void twoSides() {
        CHECKS.sentence("FORMULA = OR [ > FORMULA ]. OR = AND { | AND }. AND = UNTIL { & UNTIL }.");
        LassoFinder x = model();
        CHECKS.rightFormulas(x, "{1}>{1}", "{1}>{1}>{1}", "{1}|{1}|{1}", "{1}&{1}&{1}", "{1}U{1}U{1}", "{1}R{1}",
                "{1}>{1}|{1}&{1}U{1}", "{1}U{1}&{1}|{1}>{1}");
        for (char sign : ">|&UR".toCharArray()) {
            CHECKS.wrongFormulas(x, "{1}" + sign + "`", "`" + sign + "{1}", "{1}" + sign + "`" + sign + "{1}",
                    "{1}" + sign + "`&{1}", "({1}" + sign + "`)", "!`" + sign + "{1}");
        }
        CHECKS.wrongFormulas(x, "{1}`{1}", "{1}`!{1}", "{1}`G{1}", "{1}`({1})", "{1}`@0A", "{1}`=1", "{1}`;", "{1}`)",
                "{1}`-{1}", "{1}`<{1}", "{1}`u{1}");
    }

    private static void units() {
        CHECKS.sentence("UNIT = ! UNIT | G UNIT | F UNIT | ( FORMULA ) | { EXPRESSION }");
        LassoFinder x = model();
        CHECKS.rightFormulas(x, "!{1}", "G{1}", "F{1}", "({1})", "{1}", "@0A", "!G!F!{1}", "(({1})&(@0A))");
        CHECKS.wrongFormulas(x, "`", "`x", "`a", "`1", "`)", "`}", "`-", "`[", "`g{1}", "G`", "F`", "!`", "(`)",
                "({1}`", "({1}`}", "({1})`)", "{1}UG`", "(`");
    }

    private static void ends() {
        CHECKS.sentence("at its end, if more must come .. It is wrong likewise");
        LassoFinder x = model();
        String all = "(!G@0A>{a=(1+b)*2}&F(@1A|{b<2})U!{1})";
        CHECKS.formula(x, all, 3);
        for (int length = 0; length < all.length(); length++) {
            CHECKS.wrongFormula(x, all.substring(0, length), length);
        }
    }

    private static void expressions() {
        CHECKS.sentence("{ EXPRESSION }");
        LassoFinder x = model();
        CHECKS.rightFormulas(x, "{a}", "{b}", "{(a=b)<1}", "{((((1))))}&{((((a))))}", "{a-b*2+7<1}",
                "{1+1+1+1+1+1+1+1+1+1+1+1}&{1+1+1+1+1+1+1+1+1+1+1+a}");
        CHECKS.wrongFormulas(x, "{`}", "{1`", "{1`)}", "{`c}", "{`i}", "{`8}", "{a=`c}", "{1=1`=1}", "{a`:=1}", "{(1`}",
                "{a`!1}", "{`-1}");
        CHECKS.wrongFormulas(x, "{((((`(1)))))}", "(({((((`(1)))))}))", "{1+1+1+1+1+1+1+1+1+1+1+1+`1}",
                "{1}&{1+1+1+1+1+1+1+1+1+1+1+1=`a}");
    }

    private static void processNumbers() {
        CHECKS.sentence("a number of no process: at the digit");
        LassoFinder x = model();
        CHECKS.rightFormulas(x, "@0A", "@1A");
        CHECKS.wrongFormulas(x, "@`2A", "@`7A", "@`8A", "@`A", "@`a", "@`", "@`@0A", "{1}&@`2A", "@`/A", "@`-1A");
        LassoFinder one = CHECKS.modelled("{:A-}", 2);
        CHECKS.rightFormulas(one, "@0A");
        CHECKS.wrongFormulas(one, "@`1A");
        LassoFinder four = CHECKS.modelled("{:A-}{:A-}{:A-}{:A-}", 16);
        CHECKS.rightFormulas(four, "@3A");
        CHECKS.wrongFormulas(four, "@`4A");
    }

    private static void labels() {
        CHECKS.sentence("a label that isn't set in it: at the label");
        LassoFinder x = model();
        CHECKS.rightFormulas(x, "@0B", "@1A");
        CHECKS.wrongFormulas(x, "@0`C", "@1`B", "@0`H", "@0`I", "@0`a", "@0`@", "@0`0", "@0`", "@0A`A", "@0`)");
        LassoFinder y = CHECKS.modelled("{:H-}{-}", 4);
        CHECKS.rightFormulas(y, "@0H");
        CHECKS.wrongFormulas(y, "@0`A", "@1`H", "@0`G");
        // A model that is read anew has its own labels alone.
        CHECKS.write(y, "{:G-}{-}");
        y.model();
        CHECKS.rightFormulas(y, "@0G");
        CHECKS.wrongFormulas(y, "@0`H");
    }

    private static void fourTemporals() {
        CHECKS.sentence("also at the fourth of U, R, G, F in all");
        LassoFinder x = model();
        String three = "G{1}&F{1}&({1}U{1})";
        CHECKS.rightFormulas(x, three, "GFG{1}", "{1}U{1}R{1}U{1}", "G{1}|F{1}|({1}R{1})");
        CHECKS.wrongFormulas(x, three + "&`G{1}", three + "&`F{1}", three + "&{1}`U{1}", three + "&{1}`R{1}",
                "GGG`G{1}", "GFG`F{1}", "FFF`F{1}", "{1}U{1}R{1}U{1}`U{1}", "{1}R{1}R{1}R{1}`R{1}",
                "(GF{1}>G{1})`U{1}");
    }

    private static void nineAtoms() {
        CHECKS.sentence("at the { or @ of the ninth in all");
        LassoFinder x = model();
        String eight = "{1}&@0A&{1}|@0B|{1}>@1A>{1}&{a}";
        CHECKS.rightFormulas(x, eight, "{1}" + "&{1}".repeat(7), "@0A" + "|@0A".repeat(7));
        CHECKS.wrongFormulas(x, eight + "&`{1}", eight + "|`@0A", eight + "&`@9Z", eight + "&(`{1})", eight + "&!`{1}",
                "{1}" + "&{1}".repeat(7) + "&`{1}", "@0A" + "|@0A".repeat(7) + "|`@0A", eight + "&`");
    }

    private static void deepUnits() {
        CHECKS.sentence("at the sign .. !, G, F or ( behind which it would be more than eight deep");
        LassoFinder x = model();
        CHECKS.rightFormulas(x, "!!!!!!!!{1}", "(((((((({1}))))))))", "!!!!!!!G{1}", "!!!!!!!F{1}", "!!!!!!!({1})",
                "(((((((!{1})))))))", "G!F!G!!!@0A", "(((((((({((((1))))}))))))))");
        CHECKS.wrongFormulas(x, "!!!!!!!!`!{1}", "!!!!!!!!`G{1}", "!!!!!!!!`F{1}", "!!!!!!!!`({1})",
                "((((((((`({1})))))))))", "((((((((`!{1}))))))))", "G!F!G!!!`!@0A", "!!!!!!!(`!{1})");
    }

    private static void deepSides() {
        CHECKS.sentence("at the sign >, U, R .. behind which it would be more than eight deep");
        LassoFinder x = model();
        CHECKS.rightFormulas(x, "((((((({1}>{1})))))))", "((((((({1}U{1})))))))", "((((((({1}R{1})))))))",
                "{1}>!!!!!!!{1}", "{1}U!!!!!!!{1}", "{1}R!!!!!!!{1}", "{1}>{1}>{1}>{1}>{1}>{1}>{1}>!{1}",
                "{1}U{1}U{1}U!!!!!{1}");
        CHECKS.wrongFormulas(x, "(((((((({1}`>{1}))))))))", "(((((((({1}`U{1}))))))))", "(((((((({1}`R{1}))))))))",
                "{1}>!!!!!!!`!{1}", "{1}U!!!!!!!`!{1}", "{1}R!!!!!!!`!{1}", "{1}>{1}>{1}>{1}>{1}>{1}>{1}>!`!{1}",
                "{1}U{1}U{1}U!!!!!`!{1}", "((((((({1}U{1}`U{1})))))))", "((((((({1}>{1}`>{1})))))))");
        // Signs that aren't among these don't count.
        CHECKS.rightFormulas(x, "(((((((({1}&{1}|{1}))))))))", "{1}&{1}|{1}&!!!!!!!!{1}");
    }

    private static void depthEnds() {
        CHECKS.sentence("for what stands behind it, up to the ), or the end of the FORMULA, UNTIL or UNIT there");
        LassoFinder x = model();
        CHECKS.rightFormulas(x, "!!!!!!!!{1}&!!!!!!!!{1}", "(((((((({1}))))))))|(((((((({1}))))))))",
                "({1}>{1})&!!!!!!!!{1}", "{1}U{1}&!!!!!!!!{1}", "{1}R{1}|!!!!!!!!{1}", "!{1}U!!!!!!!{1}",
                "!!!!!!!!{1}U!!!!!!!{1}", "{1}U{1}>!!!!!!!{1}", "!!!!!!!!{1}>!!!!!!!{1}", "{1}>({1})&!!!!!!!{1}");
        CHECKS.wrongFormulas(x, "!!!!!!!!{1}&!!!!!!!!`!{1}", "({1}>{1})&!!!!!!!!`!{1}", "{1}U{1}&!!!!!!!!`!{1}",
                "!{1}U!!!!!!!`!{1}", "{1}>{1}&!!!!!!!`!{1}", "{1}>{1}|!!!!!!!`!{1}", "{1}U{1}>!!!!!!!`!{1}",
                "({1}&!!!!!!!`!{1})", "{1}>({1})&!!!!!!!`!{1}");
    }

    private static void textIsEmpty() {
        CHECKS.sentence("the text is empty then (also when it throws, for whatever)");
        LassoFinder x = model();
        CHECKS.formula(x, "{1}", 0);
        CHECKS.throwing("empty behind a right one", Checks.IAE, () -> x.formula());
        CHECKS.same("place of the empty one", x.place(), 0);
        CHECKS.wrongFormula(x, "{1}&`");
        CHECKS.formula(x, "G{1}", 1);
        LassoFinder y = new LassoFinder();
        CHECKS.write(y, "{1}");
        CHECKS.throwing("without a model", Checks.ISE, () -> y.formula());
        CHECKS.write(y, "{-}");
        CHECKS.same("model behind it", Checks.statesOf(y), 2);
        // All the room is there again.
        LassoFinder z = CHECKS.modelled("{-}", 2);
        for (int i = 0; i < 3; i++) {
            CHECKS.write(z, "x".repeat(240));
            CHECKS.throwing("240 signs", Checks.IAE, () -> z.formula());
            CHECKS.same("place of 240 signs", z.place(), 0);
        }
    }

    private static void withoutModel() {
        CHECKS.sentence("IllegalStateException: there is no model");
        LassoFinder x = new LassoFinder();
        CHECKS.write(x, "{1}");
        CHECKS.throwing("a new object", Checks.ISE, () -> x.formula());
        CHECKS.write(x, "{-");
        CHECKS.throwing("a wrong model", Checks.IAE, () -> x.model());
        CHECKS.write(x, "{1}");
        CHECKS.throwing("behind a wrong model", Checks.ISE, () -> x.formula());
        CHECKS.write(x, "a;b;c;{*[a=a+1]}{*[b=b+1]}{*[c=c+1]}");
        CHECKS.throwing("a model too big", Checks.UOE, () -> x.model());
        CHECKS.write(x, "{1}");
        CHECKS.throwing("behind a model too big", Checks.ISE, () -> x.formula());
        CHECKS.write(x, "{-}");
        x.model();
        CHECKS.formula(x, "{1}", 0);
    }

    private static void throwsInOrder() {
        CHECKS.sentence("else IllegalArgumentException: it is wrong");
        LassoFinder x = new LassoFinder();
        CHECKS.throwing("no text and no model", Checks.ISE, () -> x.formula());
        CHECKS.write(x, "x");
        CHECKS.throwing("a wrong one and no model", Checks.ISE, () -> x.formula());
        LassoFinder y = model();
        CHECKS.throwing("no text", Checks.IAE, () -> y.formula());
    }

    private static void noLassoThen() {
        CHECKS.sentence("and there is no lasso");
        String[] then = {"G{a=0}", "{1}", "{1", ""};
        for (String text : then) {
            LassoFinder x = CHECKS.modelled("a;{*[a=1-a]}", 2);
            CHECKS.lasso(x, "G{a=0}", "/ 0 0");
            CHECKS.write(x, text);
            CHECKS.same("a lasso before " + text, x.cycle(), 2);
            Checks.thrownBy(() -> x.formula());
            CHECKS.same("stem behind " + text, x.stem(), -1);
            CHECKS.same("cycle behind " + text, x.cycle(), 0);
            CHECKS.throwing("lasso behind " + text, Checks.IOOBE, () -> x.lasso(0, 0));
        }
    }

    private static void walkStays() {
        CHECKS.sentence("(a walk stays)");
        LassoFinder x = CHECKS.modelled("a;{a=1;*[a=1-a]}", 3);
        Checks.walk(x, 0, 0);
        CHECKS.formula(x, "{1}", 0);
        CHECKS.same("value behind a formula", x.value(0), 0);
        CHECKS.same("point behind a formula", x.point(0), 1);
        x.go(0);
        CHECKS.wrongFormula(x, "{1}`)");
        CHECKS.same("value behind a wrong formula", x.value(0), 1);
        x.go(0);
        CHECKS.formula(x, "F{a}", 1);
        CHECKS.same("all its steps are there yet", x.truth(2), true);
        CHECKS.same("the model stays", x.count(0), 3);
    }

    private static void noFormulaThen() {
        CHECKS.sentence("When it throws, there is no formula.");
        LassoFinder x = CHECKS.modelled("a;{*[a=a]}", 1);
        Checks.walk(x, 0);
        CHECKS.formula(x, "{1}", 0);
        CHECKS.same("a formula before", x.verify() && x.truth(0), true);
        CHECKS.write(x, "{1");
        CHECKS.throwing("a wrong one", Checks.IAE, () -> x.formula());
        CHECKS.throwing("verify behind it", Checks.ISE, () -> x.verify());
        CHECKS.throwing("truth behind it", Checks.ISE, () -> x.truth(0));
        CHECKS.formula(x, "{0}", 0);
        CHECKS.same("another one then", x.verify() || x.truth(0), false);
    }
}
