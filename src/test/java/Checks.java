/** What the tests share: writing texts, noting wrong answers and how a test ends. */
final class Checks {
    static final String ISE = "IllegalStateException";
    static final String IAE = "IllegalArgumentException";
    static final String IOOBE = "IndexOutOfBoundsException";
    static final String UOE = "UnsupportedOperationException";
    static final String NOTHING = "nothing";

    private final String test;
    private int made;
    private int wrong;

    Checks(String test) {
        this.test = test;
    }

    /** A call that may throw. */
    interface Call {
        void make();
    }

    void same(String what, long got, long due) {
        made++;
        if (got != due) {
            wrong++;
            System.out.println(test + ": " + what + " answered " + got + ", due is " + due);
        }
    }

    void same(String what, boolean got, boolean due) {
        same(what, got ? 1 : 0, due ? 1 : 0);
    }

    void same(String what, String got, String due) {
        made++;
        if (!got.equals(due)) {
            wrong++;
            System.out.println(test + ": " + what + " answered " + got + ", due is " + due);
        }
    }

    void throwing(String what, String due, Call call) {
        same(what + " throwing", thrownBy(call), due);
    }

    static String thrownBy(Call call) {
        try {
            call.make();
            return NOTHING;
        } catch (RuntimeException e) {
            return e.getClass().getSimpleName();
        }
    }

    /** Writes a text in words of eight characters; the text must have room. */
    void write(LassoFinder finder, String text) {
        for (int i = 0; i < text.length(); i += 8) {
            long word = 0;
            for (int k = i; k < Math.min(i + 8, text.length()); k++) {
                word = word << 8 | text.charAt(k);
            }
            same("write of " + text, finder.write(word), true);
        }
    }

    /** A new object with that model, whose states are looked at. */
    LassoFinder modelled(String text, int states) {
        LassoFinder finder = new LassoFinder();
        write(finder, text);
        same("states of " + text, statesOf(finder), states);
        same("place after " + text, finder.place(), -1);
        return finder;
    }

    /** The answer of model(), or -2 if it throws. */
    static int statesOf(LassoFinder finder) {
        try {
            return finder.model();
        } catch (RuntimeException e) {
            return -2;
        }
    }

    void formula(LassoFinder finder, String text, int temporals) {
        write(finder, text);
        int got = -2;
        try {
            got = finder.formula();
        } catch (RuntimeException e) {
            same(text + " throwing", e.getClass().getSimpleName(), NOTHING);
        }
        same("formula " + text, got, temporals);
    }

    /** The text is wrong where the mark ` stands in it. */
    void wrongModel(String marked) {
        String text = marked.replace("`", "");
        LassoFinder finder = new LassoFinder();
        write(finder, text);
        throwing("model " + text, IAE, () -> finder.model());
        same("place of " + text, finder.place(), marked.indexOf('`'));
        same("count after " + text, finder.count(0), 0);
        throwing("walk after " + text, ISE, () -> finder.walk());
    }

    /** The text isn't wrong, however many states it has. */
    void rightModel(String text) {
        LassoFinder finder = new LassoFinder();
        write(finder, text);
        same("model " + text + " being refused", thrownBy(() -> finder.model()).equals(IAE), false);
        same("place of " + text, finder.place(), -1);
    }

    void wrongFormula(LassoFinder finder, String marked) {
        String text = marked.replace("`", "");
        write(finder, text);
        throwing("formula " + text, IAE, () -> finder.formula());
        same("place of " + text, finder.place(), marked.indexOf('`'));
        throwing("verify after " + text, ISE, () -> finder.verify());
    }

    /** Walks from the first state by those steps. */
    static void walk(LassoFinder finder, int... steps) {
        finder.walk();
        for (int step : steps) {
            finder.go(step);
        }
    }

    /** Reads the formula and compares its lasso, as in lasso(..). */
    void lasso(LassoFinder finder, String formula, String due) {
        write(finder, formula);
        finder.formula();
        same("lasso of " + formula, lasso(finder, 0), due);
    }

    /** The lasso as stem numbers, a slash and cycle numbers; "holds" if the formula does. */
    static String lasso(LassoFinder finder, int what) {
        if (finder.verify()) {
            return "holds";
        }
        StringBuilder out = new StringBuilder();
        for (int i = 0; i < finder.stem() + finder.cycle(); i++) {
            out.append(i == finder.stem() ? "/ " : "").append(finder.lasso(i, what)).append(' ');
        }
        return out.toString().trim();
    }

    void end() {
        System.out.println(test + ": " + made + " checks, " + wrong + " wrong");
        System.exit(wrong == 0 ? 0 : 1);
    }
}
