/** Promise 5: which text place() tells about; WrongModelTest and FormulaTest have the places. */
final class PlaceTest {
    private static final Checks CHECKS = new Checks("PlaceTest");

    public static void main(String[] args) {
        noneRead();
        firstCharacter();
        latest();
        behindTooBig();
        withoutModel();
        otherCalls();
        CHECKS.end();
    }

    private static void noneRead() {
        CHECKS.sentence("-1 if .. none was read");
        LassoFinder x = new LassoFinder();
        CHECKS.same("a new object", x.place(), -1);
        CHECKS.write(x, "x");
        CHECKS.same("only written", x.place(), -1);
        x.write(1L);
        CHECKS.same("a wrong byte isn't read", x.place(), -1);
    }

    private static void firstCharacter() {
        CHECKS.sentence("Where the text was wrong .. (0 its first character)");
        CHECKS.wrongModel("x", 0);
        CHECKS.wrongModel("a", 1);
        CHECKS.wrongModel("", 0);
        // The last of 240, and the end of 240.
        CHECKS.wrongModel("a;{:A-" + ";^A".repeat(77) + ";-x", 239);
        CHECKS.wrongModel("a;{:A-" + ";^A".repeat(78), 240);
        LassoFinder x = CHECKS.modelled("{-}", 2);
        CHECKS.wrongFormula(x, "", 0);
        CHECKS.wrongFormula(x, "x", 0);
        CHECKS.wrongFormula(x, "{1}&", 4);
        CHECKS.wrongFormula(x, "{1}" + "&".repeat(237), 4);
    }

    private static void latest() {
        CHECKS.sentence("Where the text was wrong that was read latest, as a model or formula .. -1 if it wasn't");
        LassoFinder x = new LassoFinder();
        CHECKS.write(x, "{-;x}");
        CHECKS.throwing("a wrong model", Checks.IAE, () -> x.model());
        CHECKS.same("a wrong model", x.place(), 3);
        CHECKS.write(x, "{-;-x}");
        CHECKS.throwing("another wrong model", Checks.IAE, () -> x.model());
        CHECKS.same("another wrong model", x.place(), 4);
        CHECKS.write(x, "{-}");
        CHECKS.same("a right model", Checks.statesOf(x), 2);
        CHECKS.same("a right model", x.place(), -1);
        CHECKS.wrongFormula(x, "{1}&`");
        CHECKS.formula(x, "{1}", 0);
        CHECKS.same("a right formula", x.place(), -1);
        CHECKS.wrongFormula(x, "`");
        CHECKS.write(x, "{-}");
        CHECKS.same("a right model behind a wrong formula", Checks.statesOf(x), 2);
        CHECKS.same("a right model behind a wrong formula", x.place(), -1);
    }

    private static void behindTooBig() {
        CHECKS.sentence("(also behind UnsupportedOperationException)");
        LassoFinder x = new LassoFinder();
        CHECKS.throwing("a wrong model", Checks.IAE, () -> x.model());
        CHECKS.same("a wrong model", x.place(), 0);
        CHECKS.write(x, "a;b;c;{*[a=a+1]}{*[b=b+1]}{*[c=c+1]}");
        CHECKS.throwing("one too big", Checks.UOE, () -> x.model());
        CHECKS.same("one too big", x.place(), -1);
    }

    private static void withoutModel() {
        CHECKS.sentence("or there was no model for the formula");
        LassoFinder x = new LassoFinder();
        CHECKS.throwing("a formula", Checks.ISE, () -> x.formula());
        CHECKS.same("none before", x.place(), -1);
        CHECKS.write(x, "{-");
        CHECKS.throwing("a wrong model", Checks.IAE, () -> x.model());
        CHECKS.same("a wrong model", x.place(), 2);
        CHECKS.write(x, "{-");
        CHECKS.throwing("a wrong formula", Checks.ISE, () -> x.formula());
        CHECKS.same("no model for it", x.place(), -1);
    }

    private static void otherCalls() {
        CHECKS.sentence("that was read latest");
        LassoFinder x = CHECKS.modelled("{-}", 2);
        CHECKS.wrongFormula(x, "{1}&`");
        CHECKS.same("asked again", x.place(), 4);
        CHECKS.write(x, "{1}");
        CHECKS.same("behind write", x.place(), 4);
        x.walk();
        x.go(0);
        CHECKS.throwing("truth", Checks.ISE, () -> x.truth(0));
        CHECKS.throwing("go", Checks.IOOBE, () -> x.go(1));
        CHECKS.throwing("lasso", Checks.IOOBE, () -> x.lasso(0, 0));
        CHECKS.same("behind other calls", x.place(), 4);
        x.formula();
        CHECKS.same("behind a right one", x.place(), -1);
    }
}
