/** Promise 3, what isn't wrong: states, limits, and what a model leaves behind. */
final class ModelTest {
    private static final Checks CHECKS = new Checks("ModelTest");

    public static void main(String[] args) {
        smallOnes();
        mostStates();
        mostSteps();
        clearsAll();
        throwingClearsAll();
        CHECKS.end();
    }

    private static void smallOnes() {
        CHECKS.modelled("{-}", 2);
        CHECKS.modelled("{-;-}{-}", 6);
        CHECKS.modelled("a;{*[a=1-a]}", 2);
        CHECKS.modelled("a=7;{*[a=a+1]}", 8);
        CHECKS.modelled("a;{(a)}", 1);
        CHECKS.modelled("a=1;{(a)}", 2);
        CHECKS.modelled("a;{*[a=1|a=2]}", 3);
        CHECKS.modelled("#a3;{*[a!1]}", 4);
        CHECKS.modelled("#a3;b=1;{*[a!1;a!1;a!1;a?b;a?b;a?b]}", 6);
        CHECKS.modelled("#a0;{a!1}", 1);
        CHECKS.modelled("#a0;b;{a!1}{a?b}", 2);
        CHECKS.modelled("#a0;b;{a!1;a?b}", 1);
        CHECKS.modelled("{^A;-;:A-}", 2);
        CHECKS.modelled("{*[-;-;.];-}", 4);
        CHECKS.modelled("{*[-;[-;.|-]]}", 3);
        CHECKS.modelled("{<-;-;->}{-}", 8);
        // The same state with another holder is another state.
        CHECKS.modelled("{<-;:B->;[-;^B]}", 4);
    }

    private static void mostStates() {
        CHECKS.modelled("a;{*[a=a+1]}{*[-;-;-;-;-;-;-;-;-;-;-;-]}", 96);
        CHECKS.modelled("b=1;{b=0;*[-;-;-;-;-]}{(b=0);*[-;-;-;-;-;-;-;-;-;-;-;-;-;-;-;-;-;-]}", 96);
        // 97 of them: the first one, and then 12 by 8.
        tooBig("b=1;{b=0;*[-;-;-;-;-;-;-;-;-;-;-;-]}{(b=0);*[-;-;-;-;-;-;-]}");
        tooBig("a;b;c;{*[a=a+1]}{*[b=b+1]}{*[c=c+1]}");
    }

    private static void mostSteps() {
        String start = "b=0;-;-;-;-;-;-;-;";
        String round = "*[a=a+1;-;-;-;-;-;-;-;-]}";
        LassoFinder x = CHECKS.modelled("a;b=1;{*[-|-|-|-]}{" + start + round, 80);
        CHECKS.same("the most steps", x.count(1), 400);
        // At the first state alone b isn't 0, so there is one step more.
        tooBig("a;b=1;{*[-|-|-|-|(b)]}{" + start + round);
    }

    private static void tooBig(String text) {
        LassoFinder x = new LassoFinder();
        CHECKS.write(x, "{-}");
        x.model();
        CHECKS.write(x, text);
        CHECKS.throwing(text, Checks.UOE, () -> x.model());
        CHECKS.same("place of " + text, x.place(), -1);
        for (int what = 0; what < 4; what++) {
            CHECKS.same("count of " + text, x.count(what), 0);
        }
        CHECKS.throwing("walk of " + text, Checks.ISE, () -> x.walk());
        CHECKS.write(x, "{1}");
        CHECKS.throwing("formula of " + text, Checks.ISE, () -> x.formula());
    }

    private static LassoFinder withAll() {
        LassoFinder x = CHECKS.modelled("a;{*[a=1-a]}", 2);
        CHECKS.lasso(x, "G{a=0}", "/ 0 0");
        x.walk();
        return x;
    }

    private static void clearsAll() {
        LassoFinder x = withAll();
        CHECKS.write(x, "{-}");
        CHECKS.same("the next model", Checks.statesOf(x), 2);
        hasNothingBut(x);
        x.walk();
        CHECKS.same("names of the model before", x.value(0), -1);
    }

    private static void throwingClearsAll() {
        LassoFinder x = withAll();
        CHECKS.write(x, "{-");
        CHECKS.throwing("a wrong model", Checks.IAE, () -> x.model());
        hasNothingBut(x);
        CHECKS.throwing("walk without a model", Checks.ISE, () -> x.walk());
        CHECKS.write(x, "{-}");
        CHECKS.same("the text was empty", Checks.statesOf(x), 2);
    }

    private static void hasNothingBut(LassoFinder x) {
        CHECKS.same("stem", x.stem(), -1);
        CHECKS.same("cycle", x.cycle(), 0);
        CHECKS.same("steps", x.steps(), 0);
        CHECKS.same("point", x.point(0), -1);
        CHECKS.throwing("lasso", Checks.IOOBE, () -> x.lasso(0, 0));
        CHECKS.throwing("go", Checks.ISE, () -> x.go(0));
        CHECKS.throwing("verify", Checks.ISE, () -> x.verify());
        CHECKS.throwing("truth", Checks.ISE, () -> x.truth(0));
    }
}
