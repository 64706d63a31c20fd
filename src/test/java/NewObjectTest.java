/** Promise 1: each call on an object that is new. */
final class NewObjectTest {
    private static final Checks CHECKS = new Checks("NewObjectTest");

    public static void main(String[] args) {
        noText();
        noModel();
        noFormula();
        noLasso();
        noWalk();
        noneAfterRefusals();
        eachItsOwn();
        CHECKS.end();
    }

    private static void noText() {
        CHECKS.sentence("No text, model, formula, lasso or walk.");
        LassoFinder x = new LassoFinder();
        CHECKS.same("nothing was read", x.place(), -1);
        CHECKS.throwing("model of no text", Checks.IAE, () -> x.model());
        CHECKS.same("wrong at its end", x.place(), 0);
        LassoFinder y = new LassoFinder();
        CHECKS.write(y, "{-}");
        CHECKS.same("nothing stands before what is written", Checks.statesOf(y), 2);
    }

    private static void noModel() {
        CHECKS.throwing("walk", Checks.ISE, () -> new LassoFinder().walk());
        CHECKS.throwing("formula", Checks.ISE, () -> new LassoFinder().formula());
        for (int what = 0; what < 4; what++) {
            CHECKS.same("count " + what, new LassoFinder().count(what), 0);
        }
        CHECKS.same("count 4", new LassoFinder().count(4), -1);
        CHECKS.same("count -1", new LassoFinder().count(-1), -1);
    }

    private static void noFormula() {
        CHECKS.throwing("verify", Checks.ISE, () -> new LassoFinder().verify());
        CHECKS.throwing("truth", Checks.ISE, () -> new LassoFinder().truth(0));
        CHECKS.throwing("truth of -1", Checks.ISE, () -> new LassoFinder().truth(-1));
    }

    private static void noLasso() {
        CHECKS.same("stem", new LassoFinder().stem(), -1);
        CHECKS.same("cycle", new LassoFinder().cycle(), 0);
        CHECKS.throwing("lasso", Checks.IOOBE, () -> new LassoFinder().lasso(0, 0));
        CHECKS.throwing("lasso, no such what", Checks.IOOBE, () -> new LassoFinder().lasso(0, 3));
    }

    private static void noWalk() {
        CHECKS.same("steps", new LassoFinder().steps(), 0);
        CHECKS.throwing("go", Checks.ISE, () -> new LassoFinder().go(0));
        CHECKS.throwing("go by -1", Checks.ISE, () -> new LassoFinder().go(-1));
        CHECKS.same("holder", new LassoFinder().holder(), -1);
        for (int i = -1; i < 9; i++) {
            CHECKS.same("value " + i, new LassoFinder().value(i), -1);
            CHECKS.same("message of " + i, new LassoFinder().message(i, 0), -1);
            CHECKS.same("point " + i, new LassoFinder().point(i), -1);
        }
    }

    private static void noneAfterRefusals() {
        LassoFinder x = new LassoFinder();
        CHECKS.throwing("walk", Checks.ISE, () -> x.walk());
        CHECKS.throwing("verify", Checks.ISE, () -> x.verify());
        CHECKS.throwing("formula", Checks.ISE, () -> x.formula());
        CHECKS.same("place", x.place(), -1);
        CHECKS.throwing("go", Checks.ISE, () -> x.go(0));
        CHECKS.throwing("truth", Checks.ISE, () -> x.truth(0));
        CHECKS.same("steps", x.steps(), 0);
        CHECKS.same("count", x.count(0), 0);
    }

    private static void eachItsOwn() {
        LassoFinder x = CHECKS.modelled("a=5;{*[a=a+1]}", 8);
        x.walk();
        LassoFinder y = new LassoFinder();
        CHECKS.same("count of another one", y.count(0), 0);
        CHECKS.same("steps of another one", y.steps(), 0);
        CHECKS.write(y, "a;{-;-}");
        y.model();
        Checks.walk(y, 0, 0);
        CHECKS.same("count of the first", x.count(0), 8);
        CHECKS.same("value in the first", x.value(0), 5);
        CHECKS.same("point in the first", x.point(0), 0);
        CHECKS.same("value in the second", y.value(0), 0);
        CHECKS.same("point in the second", y.point(0), 2);
    }
}
