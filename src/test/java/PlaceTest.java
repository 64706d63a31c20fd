/** Promise 5: which text place() tells about; WrongModelTest and FormulaTest have the places. */
final class PlaceTest {
    public static void main(String[] args) {
        Checks checks = new Checks("PlaceTest");
        LassoFinder x = new LassoFinder();
        checks.same("nothing read", x.place(), -1);
        checks.write(x, "{-;x}");
        checks.same("nothing read yet", x.place(), -1);
        checks.throwing("a wrong model", Checks.IAE, () -> x.model());
        checks.same("wrong model", x.place(), 3);
        checks.same("asked again", x.place(), 3);
        checks.write(x, "{-}");
        checks.same("writing changes nothing", x.place(), 3);
        checks.same("a right model", Checks.statesOf(x), 2);
        checks.same("right model", x.place(), -1);
        checks.wrongFormula(x, "{1}&`");
        checks.throwing("verify", Checks.ISE, () -> x.verify());
        checks.throwing("go", Checks.ISE, () -> x.go(0));
        checks.same("other calls change nothing", x.place(), 4);
        checks.formula(x, "{1}", 0);
        checks.same("right formula", x.place(), -1);
        checks.wrongFormula(x, "`");
        checks.write(x, "a;b;c;{*[a=a+1]}{*[b=b+1]}{*[c=c+1]}");
        checks.throwing("too many states", Checks.UOE, () -> x.model());
        checks.same("too many states", x.place(), -1);
        checks.write(x, "{-");
        checks.throwing("a wrong model again", Checks.IAE, () -> x.model());
        checks.same("the end", x.place(), 2);
        checks.throwing("no model for it", Checks.ISE, () -> x.formula());
        checks.same("no model for it", x.place(), -1);
        checks.end();
    }
}
