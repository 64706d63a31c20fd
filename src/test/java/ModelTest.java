/** Promise 3: the number of states, the limits, and what there is no more of then. */
final class ModelTest {
    private static final Checks CHECKS = new Checks("ModelTest");
    private static final String TOO_BIG = "a;b;c;{*[a=a+1]}{*[b=b+1]}{*[c=c+1]}";

    public static void main(String[] args) {
        states();
        onlyThoseComeTo();
        mostStates();
        mostSteps();
        textIsEmpty();
        wrongOne();
        nothingElseThen();
        noModelThen();
        firstNumbers();
        namesOfItsOwn();
        CHECKS.end();
    }

    private static void states() {
        CHECKS.sentence("how many states the runs come to");
        CHECKS.modelled("{-}", 2);
        CHECKS.modelled("{-;-}{-}", 6);
        CHECKS.modelled("a;{*[a=1-a]}", 2);
        CHECKS.modelled("a=7;{*[a=a+1]}", 8);
        CHECKS.modelled("a;{*[a=1|a=2]}", 3);
        CHECKS.modelled("#a3;{*[a!1]}", 4);
        CHECKS.modelled("#a0;b;{a!1}{a?b}", 2);
        CHECKS.modelled("{*[-;-;.];-}", 4);
        CHECKS.modelled("{*[-;[-;.|-]]}", 3);
        CHECKS.modelled("{<-;-;->}{-}", 8);
        CHECKS.modelled("{*[-]}", 1);
    }

    private static void onlyThoseComeTo() {
        CHECKS.sentence("how many states the runs come to");
        CHECKS.modelled("a;{(a)}", 1);
        CHECKS.modelled("a=1;{(a)}", 2);
        CHECKS.modelled("#a0;{a!1}", 1);
        CHECKS.modelled("#a0;b;{a!1;a?b}", 1);
        CHECKS.modelled("{^A;-;:A-}", 2);
        CHECKS.modelled("{*[-];-;-}", 1);
        CHECKS.modelled("a;{[(a)|-;-]}", 3);
    }

    private static void fits(String text, int states, int steps) {
        LassoFinder x = CHECKS.modelled(text, states);
        CHECKS.same("states of " + text, x.count(0), states);
        CHECKS.same("steps of " + text, x.count(1), steps);
    }

    private static void tooBig(String text) {
        LassoFinder x = new LassoFinder();
        CHECKS.write(x, text);
        CHECKS.throwing(text, Checks.UOE, () -> x.model());
        CHECKS.same("place of " + text, x.place(), -1);
    }

    private static void mostStates() {
        CHECKS.sentence("they come to more than 96 states");
        fits("a;{*[-;-;-;-;-;-;-;-;-;-;a=a+1;(a)]}", 96, 96);
        tooBig("a;{-;*[-;-;-;-;-;-;-;-;-;-;a=a+1;(a)]}");
        fits("a;{*[a=a+1]}{*[-;-;-;-;-;-;-;-;-;-;-;-]}", 96, 192);
        fits("a;b;{*[a=a+1]}{*[b=b+1;b=0;b=1;b=2;b=3;b=4;b=5;b=6;b=7;-;-;b=0]}", 96, 192);
        // 97 of them: the first one, and then 12 by 8.
        fits("b=1;{b=0;*[-;-;-;-;-]}{(b=0);*[-;-;-;-;-;-;-;-;-;-;-;-;-;-;-;-;-;-]}", 96, 191);
        tooBig("b=1;{b=0;*[-;-;-;-;-;-;-;-;-;-;-;-]}{(b=0);*[-;-;-;-;-;-;-]}");
        tooBig(TOO_BIG);
    }

    private static void mostSteps() {
        CHECKS.sentence("or these have more than 400 steps");
        String second = "{b=0;-;-;-;-;-;-;-;*[a=a+1;-;-;-;-;-;-;-;-]}";
        fits("a;b=1;{*[-|-|-|-]}" + second, 80, 400);
        // At the first state alone b isn't 0, so there is one step more.
        tooBig("a;b=1;{*[-|-|-|-|(b)]}" + second);
        tooBig("a;b;{*[a=a+1|a=a+1|a=a+1|a=a+1]}{*[b=b+1|b=b+1|b=b+1]}");
        // STILL is a step, too, and the last one of these: 21 by 19 and one, 20 by 20 and one.
        fits("b=1;{*[(b)" + "|(b)".repeat(17) + "]}{" + "-;".repeat(20) + "b=0}", 22, 400);
        tooBig("b=1;{*[(b)" + "|(b)".repeat(18) + "]}{" + "-;".repeat(19) + "b=0}");
    }

    private static void textIsEmpty() {
        CHECKS.sentence("the text is empty then (also when it throws)");
        LassoFinder x = CHECKS.modelled("{-}", 2);
        CHECKS.throwing("behind a right one", Checks.IAE, () -> x.model());
        CHECKS.same("place", x.place(), 0);
        CHECKS.write(x, "{-");
        CHECKS.throwing("a wrong one", Checks.IAE, () -> x.model());
        CHECKS.write(x, "{-}");
        CHECKS.same("behind a wrong one", Checks.statesOf(x), 2);
        CHECKS.write(x, TOO_BIG);
        CHECKS.throwing("one too big", Checks.UOE, () -> x.model());
        CHECKS.write(x, "{-}");
        CHECKS.same("behind one too big", Checks.statesOf(x), 2);
    }

    private static void wrongOne() {
        CHECKS.sentence("IllegalArgumentException: it is wrong");
        LassoFinder x = new LassoFinder();
        CHECKS.throwing("no text", Checks.IAE, () -> x.model());
        CHECKS.write(x, TOO_BIG + "x");
        CHECKS.throwing("wrong behind all that is too big", Checks.IAE, () -> x.model());
        CHECKS.same("place", x.place(), TOO_BIG.length());
    }

    private static LassoFinder withAll() {
        LassoFinder x = CHECKS.modelled("a=4;#b1;{*[<b!7;b?a>]}", 4);
        CHECKS.lasso(x, "{0}", "0 0 / 0 0");
        Checks.walk(x, 0);
        CHECKS.same("steps", x.steps(), 1);
        CHECKS.same("message", x.message(1, 0), 7);
        CHECKS.same("holder", x.holder(), 0);
        return x;
    }

    private static void nothingElseThen() {
        CHECKS.sentence("and there is no formula, lasso or walk");
        String[] texts = {"a=4;#b1;{*[<b!7;b?a>]}", "{-", "", TOO_BIG};
        for (String text : texts) {
            LassoFinder x = withAll();
            CHECKS.write(x, text);
            Checks.thrownBy(() -> x.model());
            CHECKS.same("stem behind " + text, x.stem(), -1);
            CHECKS.same("cycle behind " + text, x.cycle(), 0);
            CHECKS.throwing("lasso behind " + text, Checks.IOOBE, () -> x.lasso(0, 0));
            CHECKS.throwing("verify behind " + text, Checks.ISE, () -> x.verify());
            CHECKS.throwing("go behind " + text, Checks.ISE, () -> x.go(0));
            CHECKS.throwing("truth behind " + text, Checks.ISE, () -> x.truth(0));
            CHECKS.same("steps behind " + text, x.steps(), 0);
            CHECKS.same("value behind " + text, x.value(0), -1);
            CHECKS.same("amount behind " + text, x.value(1), -1);
            CHECKS.same("message behind " + text, x.message(1, 0), -1);
            CHECKS.same("point behind " + text, x.point(0), -1);
            CHECKS.same("holder behind " + text, x.holder(), -1);
        }
        // A formula alone, or a walk alone, is gone as well.
        LassoFinder y = CHECKS.modelled("{-}", 2);
        CHECKS.formula(y, "{1}", 0);
        CHECKS.write(y, "{-}");
        y.model();
        y.walk();
        CHECKS.throwing("verify", Checks.ISE, () -> y.verify());
        y.go(0);
        y.go(0);
        CHECKS.throwing("truth", Checks.ISE, () -> y.truth(1));
    }

    private static void noModelThen() {
        CHECKS.sentence("When it throws, there is no model.");
        String[] texts = {"{-", "", TOO_BIG};
        for (String text : texts) {
            LassoFinder x = withAll();
            CHECKS.write(x, text);
            CHECKS.same("throwing of " + text, Checks.thrownBy(() -> x.model()).equals(Checks.NOTHING), false);
            for (int what = 0; what < 4; what++) {
                CHECKS.same("count behind " + text, x.count(what), 0);
            }
            CHECKS.throwing("walk behind " + text, Checks.ISE, () -> x.walk());
            CHECKS.write(x, "{1}");
            CHECKS.throwing("formula behind " + text, Checks.ISE, () -> x.formula());
            CHECKS.write(x, "{-}");
            CHECKS.same("another model then", Checks.statesOf(x), 2);
        }
    }

    private static void firstNumbers() {
        CHECKS.sentence("(a VARIABLE, at first that digit, or 0) .. empty at first");
        LassoFinder x = CHECKS.modelled("a;b=0;c=7;d=3;#e3;#f0;{-}", 2);
        x.walk();
        int[] due = {0, 0, 7, 3, 0, 0, -1, -1};
        for (int name = 0; name < 8; name++) {
            CHECKS.same("value " + name, x.value(name), due[name]);
        }
        CHECKS.same("no message", x.message(4, 0), -1);
    }

    private static void namesOfItsOwn() {
        CHECKS.sentence("Reads the text as a model");
        LassoFinder x = CHECKS.modelled("a;#b3;{:A-;b!1}{-}", 6);
        CHECKS.write(x, "#a1;{a!1}");
        CHECKS.same("names mean something else", Checks.statesOf(x), 2);
        Checks.walk(x, 0);
        CHECKS.same("a is a channel", x.message(0, 0), 1);
        CHECKS.same("no b", x.value(1), -1);
        CHECKS.same("no second process", x.point(1), -1);
        CHECKS.wrongFormulas(x, "{`b}", "@0`A", "@`1A");
        CHECKS.write(x, "{b!1}");
        CHECKS.throwing("b isn't declared", Checks.IAE, () -> x.model());
        CHECKS.same("place of b", x.place(), 1);
    }
}
