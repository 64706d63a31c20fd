/** Promise 1. */
final class NewObjectTest {
    public static void main(String[] args) {
        Checks checks = new Checks("NewObjectTest");
        LassoFinder x = new LassoFinder();
        checks.same("place", x.place(), -1);
        checks.same("stem", x.stem(), -1);
        checks.same("cycle", x.cycle(), 0);
        checks.same("steps", x.steps(), 0);
        checks.same("holder", x.holder(), -1);
        for (int i = -1; i < 9; i++) {
            int k = i;
            checks.same("value", x.value(k), -1);
            checks.same("message", x.message(k, 0), -1);
            checks.same("point", x.point(k), -1);
            checks.same("count", x.count(k), k < 0 || k > 3 ? -1 : 0);
            checks.throwing("lasso", Checks.IOOBE, () -> x.lasso(k, 0));
            checks.throwing("go", Checks.ISE, () -> x.go(k));
            checks.throwing("truth", Checks.ISE, () -> x.truth(k));
        }
        checks.throwing("walk", Checks.ISE, () -> x.walk());
        checks.throwing("verify", Checks.ISE, () -> x.verify());
        checks.throwing("formula", Checks.ISE, () -> x.formula());
        checks.same("place after formula", x.place(), -1);
        checks.throwing("model", Checks.IAE, () -> x.model());
        checks.same("place after model", x.place(), 0);
        checks.end();
    }
}
