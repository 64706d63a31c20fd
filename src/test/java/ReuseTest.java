/** Promises 3, 4 and 6 on one object, again and again: nothing of an earlier text may be left. */
final class ReuseTest {
    private static final Checks CHECKS = new Checks("ReuseTest");
    private static final String[] MODELS = {"a;{*[a=1|a=2]}", "#a0;b;{*[a!1|-]}{-;*[a?b|a?b]}",
        "a;b;c;d;e;f;#g3;#h3;{g!7;h!6;[g?a|h?b];<-;(0)>}", "{-;^A;:B-;:A^B}{:A-}", "#h1;a;{*[h!1;h!2]}{*[h?a]}",
        "h=1;{<-;:B->;[-;^B|h=0]}", "{-;-;-}{-}", "a;{*[[a=1|a=2];a=3;a=0]}"};
    private static final String[] FORMULAS = {"{0}", "G{1}", "{1}&F{0}", "FG({1}U{0})", "G(F{1}&F{0})"};

    public static void main(String[] args) {
        likeNewOnes();
        mostNames();
        emptyAtFirst();
        noStaleReceive();
        noStalePoints();
        noStaleHolder();
        noStaleLabels();
        behindWrongModels();
        behindWrongFormulas();
        manyExpressions();
        CHECKS.end();
    }

    /** All that the model and the formula answer, in one line. */
    private static String answers(LassoFinder x, String model, String formula) {
        CHECKS.write(x, model);
        StringBuilder out = new StringBuilder();
        out.append(Checks.statesOf(x)).append(", ");
        for (int what = 0; what < 4; what++) {
            out.append(x.count(what)).append(' ');
        }
        CHECKS.write(x, formula);
        out.append(x.formula()).append(", ").append(Checks.lasso(x, 1)).append(", ");
        x.walk();
        for (int i = 0; i < 3; i++) {
            out.append(x.steps()).append(' ').append(x.point(0)).append(' ').append(x.holder()).append(' ');
            out.append(x.value(0)).append(' ').append(x.value(7)).append(' ').append(x.go(x.steps() - 1)).append(' ');
        }
        return out.toString();
    }

    private static void likeNewOnes() {
        CHECKS.sentence("Reads the text as a model .. and there is no formula, lasso or walk");
        for (int shift = 0; shift < MODELS.length; shift++) {
            LassoFinder x = new LassoFinder();
            for (int i = 0; i < 5; i++) {
                String model = MODELS[(i * (shift + 1) + shift) % MODELS.length];
                String formula = FORMULAS[i];
                CHECKS.same(model + " and " + formula + " behind others", answers(x, model, formula),
                        answers(new LassoFinder(), model, formula));
            }
        }
    }

    private static LassoFinder behind(String first, String text, int states) {
        LassoFinder x = new LassoFinder();
        CHECKS.write(x, first);
        Checks.thrownBy(() -> x.model());
        CHECKS.write(x, text);
        CHECKS.same("states of " + text + " behind " + first, Checks.statesOf(x), states);
        return x;
    }

    private static void mostNames() {
        CHECKS.sentence("at a seventh variable's, a third channel's name");
        LassoFinder x = new LassoFinder();
        for (int i = 0; i < 4; i++) {
            CHECKS.write(x, "a;b;c;d;e;f;#g0;#h3;{-}");
            CHECKS.same("the most names, again", Checks.statesOf(x), 2);
            CHECKS.write(x, "#a0;#b0;#c0;{-}");
            CHECKS.throwing("one too many, again", Checks.IAE, () -> x.model());
            CHECKS.same("its place", x.place(), 9);
        }
    }

    private static void emptyAtFirst() {
        CHECKS.sentence("(a CHANNEL with 0 to 3 SLOTS, empty at first)");
        behind("#a1;{a!5}", "#a1;{a!5}", 2);
        behind("#a1;{a!5}", "#a1;b;{*[a!0;a?b]}", 2);
        behind("#a3;{a!5;a!6;a!7}", "#a3;b;{*[a!0;a?b]}", 2);
        behind("#a1;b;{a!5}", "#b1;a;{*[b!0;b?a]}", 2);
        LassoFinder x = behind("a=7;{-}", "a;{-}", 2);
        x.walk();
        CHECKS.same("a is 0 at first", x.value(0), 0);
    }

    private static void noStaleReceive() {
        CHECKS.sentence("SEND can be done together with a RECEIVE from it at the point of another process");
        LassoFinder x = behind("#a0;b;{a!1}{a?b}", "#a0;b;{a!1}{-}", 2);
        CHECKS.steps(x, "1");
        LassoFinder y = behind("{[~|~]}", "{-;(0)}", 2);
        CHECKS.steps(y, "-1", 0);
    }

    private static void noStalePoints() {
        CHECKS.sentence("The basic statements AT a point");
        LassoFinder x = behind("{[-|-|-]}", "{[-];-;-}", 4);
        CHECKS.steps(x, "0");
        LassoFinder y = behind("{^A;-;-;:A-}", "{-;-}", 3);
        y.walk();
        CHECKS.same("the first point", y.point(0), 0);
    }

    private static void noStaleHolder() {
        CHECKS.sentence("A process HOLDS if it did a basic statement within an atomic in the latest step");
        LassoFinder x = behind("{<-;(0)>}", "{-;-}", 3);
        x.walk();
        CHECKS.same("none holds at first", x.holder(), -1);
        x.go(0);
        CHECKS.same("none holds then", x.holder(), -1);
    }

    private static void noStaleLabels() {
        CHECKS.sentence("a label that is set twice in its process .. whose label isn't set in the process");
        behind("{:A-}", "{:A-}", 2);
        LassoFinder x = behind("{:A-;:B-}", "{:B-}", 2);
        CHECKS.wrongFormulas(x, "@0`A");
        CHECKS.wrongModel("{-;^`A}");
        CHECKS.write(x, "{-;^A}");
        CHECKS.throwing("no label A", Checks.IAE, () -> x.model());
        CHECKS.same("its place", x.place(), 4);
        behind("{-;^A", "{-;-}", 3);
        CHECKS.rightModels("{-;^A;:A-}{-}", "{-;-;^A;:A-}{-;-}");
    }

    private static void behindWrongModels() {
        CHECKS.sentence("A text is WRONG at the first character with which it can't go on like this");
        String all = "a=3;#b2;{:A:Ba=(1+b)*2<3;*[(a)|~;b!a-1;<-;[-;.|b?a]>;^A]}";
        LassoFinder x = new LassoFinder();
        for (int length = 0; length < all.length(); length++) {
            CHECKS.write(x, all.substring(0, length));
            CHECKS.throwing("the first " + length, Checks.IAE, () -> x.model());
        }
        CHECKS.write(x, all);
        int states = Checks.statesOf(x);
        LassoFinder fresh = new LassoFinder();
        CHECKS.write(fresh, all);
        CHECKS.same("states", states, Checks.statesOf(fresh));
        CHECKS.same("steps", x.count(1), fresh.count(1));
        LassoFinder y = behind("a;{a=1+(2*", "a;{a=2;a=3*a-1}", 3);
        Checks.walk(y, 0, 0);
        CHECKS.same("reckoned behind a wrong one", y.value(0), 5);
        LassoFinder z = behind("a;{a=1=", "a;{a=7}", 2);
        Checks.walk(z, 0);
        CHECKS.same("set behind a wrong one", z.value(0), 7);
    }

    private static void behindWrongFormulas() {
        CHECKS.sentence("When it throws, there is no formula.");
        String all = "(!G@0A>{a=(1+a)*2}&F(@0A|{a<2})U!{1})";
        LassoFinder x = CHECKS.modelled("a;{:Aa=3}", 2);
        for (int length = 0; length < all.length(); length++) {
            CHECKS.write(x, all.substring(0, length));
            CHECKS.throwing("the first " + length, Checks.IAE, () -> x.formula());
        }
        CHECKS.formula(x, all, 3);
        CHECKS.wrongFormula(x, "{1+(2*`");
        CHECKS.lasso(x, "F{a}", "holds");
        CHECKS.wrongFormula(x, "G{1}&FG({1}&`");
        CHECKS.lasso(x, "G{a}", "0 / 0");
        CHECKS.wrongFormula(x, "!!!!!!!!`!");
        CHECKS.lasso(x, "!!!!!!!!{a}", "0 / 0");
    }

    private static void manyExpressions() {
        CHECKS.sentence("An object is used for at most 512 calls");
        String waits = "{(1)" + ";(a+1)".repeat(29) + "}";
        LassoFinder x = new LassoFinder();
        for (int i = 0; i < 10; i++) {
            CHECKS.write(x, "a;" + waits + "{(a)}");
            CHECKS.same("model " + i, Checks.statesOf(x), 31);
        }
        String term = "{1+1+1+1+1+1+1+1+1+1+1-a}";
        for (int i = 0; i < 7; i++) {
            CHECKS.formula(x, term + ("&" + term).repeat(7), 0);
            CHECKS.same("formula " + i, x.verify(), true);
        }
    }
}
