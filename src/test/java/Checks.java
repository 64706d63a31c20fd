/** What the tests share: writing texts, noting wrong answers and how a test ends. */
final class Checks {
    static final String ISE = "IllegalStateException";
    static final String IAE = "IllegalArgumentException";
    static final String IOOBE = "IndexOutOfBoundsException";
    static final String UOE = "UnsupportedOperationException";
    static final String NOTHING = "nothing";

    private final String test;
    private String words = "";
    private int made;
    private int wrong;

    Checks(String test) {
        this.test = test;
    }

    /** A call that may throw. */
    interface Call {
        void make();
    }

    /** The checks that follow are of these words of the document. */
    void sentence(String quoted) {
        words = " \"" + quoted + "\"";
    }

    void same(String what, long got, long due) {
        same(what, Long.toString(got), Long.toString(due));
    }

    void same(String what, boolean got, boolean due) {
        same(what, got ? 1 : 0, due ? 1 : 0);
    }

    void same(String what, String got, String due) {
        made++;
        if (!got.equals(due)) {
            wrong++;
            System.out.println(test + words + ": " + what + " answered " + got + ", due is " + due);
        }
    }

    void throwing(String what, String due, Call call) {
        same(what + " throwing", thrownBy(call), due);
    }

    static String thrownBy(Call call) {
        try {
            call.make();
            return NOTHING;
        } catch (RuntimeException e) {
            return e.getClass().getSimpleName();
        }
    }

    /** Writes a text in words of eight characters; the text must have room. */
    void write(LassoFinder finder, String text) {
        for (int i = 0; i < text.length(); i += 8) {
            long word = 0;
            for (int k = i; k < Math.min(i + 8, text.length()); k++) {
                word = word << 8 | text.charAt(k);
            }
            same("write of " + text, finder.write(word), true);
        }
    }

    /** A new object with that model, whose states are looked at. */
    LassoFinder modelled(String text, int states) {
        LassoFinder finder = new LassoFinder();
        write(finder, text);
        same("states of " + text, statesOf(finder), states);
        same("place after " + text, finder.place(), -1);
        return finder;
    }

    /** The answer of model(), or -2 if it throws. */
    static int statesOf(LassoFinder finder) {
        try {
            return finder.model();
        } catch (RuntimeException e) {
            return -2;
        }
    }

    void formula(LassoFinder finder, String text, int temporals) {
        write(finder, text);
        int got = -2;
        try {
            got = finder.formula();
        } catch (RuntimeException e) {
            same(text + " throwing", e.getClass().getSimpleName(), NOTHING);
        }
        same("formula " + text, got, temporals);
    }

    /** The text is wrong where the mark ` stands in it. */
    void wrongModel(String marked) {
        wrongModel(marked.replace("`", ""), marked.indexOf('`'));
    }

    void wrongModels(String... marked) {
        for (String text : marked) {
            wrongModel(text);
        }
    }

    void wrongModel(String text, int place) {
        LassoFinder finder = new LassoFinder();
        write(finder, text);
        throwing("model " + text, IAE, () -> finder.model());
        same("place of " + text, finder.place(), place);
        same("count after " + text, finder.count(0), 0);
        throwing("walk after " + text, ISE, () -> finder.walk());
    }

    /** The text isn't wrong, however many states it has. */
    void rightModel(String text) {
        LassoFinder finder = new LassoFinder();
        write(finder, text);
        same("model " + text + " being refused", thrownBy(() -> finder.model()).equals(IAE), false);
        same("place of " + text, finder.place(), -1);
    }

    void rightModels(String... texts) {
        for (String text : texts) {
            rightModel(text);
        }
    }

    void wrongFormula(LassoFinder finder, String marked) {
        wrongFormula(finder, marked.replace("`", ""), marked.indexOf('`'));
    }

    void wrongFormulas(LassoFinder finder, String... marked) {
        for (String text : marked) {
            wrongFormula(finder, text);
        }
    }

    void wrongFormula(LassoFinder finder, String text, int place) {
        write(finder, text);
        throwing("formula " + text, IAE, () -> finder.formula());
        same("place of " + text, finder.place(), place);
        throwing("verify after " + text, ISE, () -> finder.verify());
    }

    void rightFormulas(LassoFinder finder, String... texts) {
        for (String text : texts) {
            write(finder, text);
            same("formula " + text + " throwing", thrownBy(() -> finder.formula()), NOTHING);
            same("place of " + text, finder.place(), -1);
        }
    }

    /** Walks from the first state by those steps. */
    static void walk(LassoFinder finder, int... steps) {
        finder.walk();
        for (int step : steps) {
            finder.go(step);
        }
    }

    /** The basic statements of the steps of the state that this way leads to, where the walk then stands. */
    static String basics(LassoFinder finder, int... way) {
        walk(finder, way);
        StringBuilder out = new StringBuilder();
        int steps = finder.steps();
        for (int i = 0; i < steps; i++) {
            walk(finder, way);
            out.append(i == 0 ? "" : " ").append(finder.go(i));
        }
        walk(finder, way);
        return out.toString();
    }

    /** Compares the basic statements of the steps of the state that this way leads to, where the walk then stands. */
    void steps(LassoFinder finder, String due, int... way) {
        same("steps behind " + java.util.Arrays.toString(way), basics(finder, way), due);
    }

    /** Reads the formula and compares its lasso, as in lasso(..). */
    void lasso(LassoFinder finder, String formula, String due) {
        write(finder, formula);
        finder.formula();
        same("lasso of " + formula, lasso(finder, 0), due);
    }

    /** The lasso as stem numbers, a slash and cycle numbers; "holds" if the formula does. */
    static String lasso(LassoFinder finder, int what) {
        if (finder.verify()) {
            return "holds";
        }
        StringBuilder out = new StringBuilder();
        int stem = finder.stem();
        int cycle = finder.cycle();
        for (int i = 0; i < stem + cycle; i++) {
            out.append(i == stem ? "/ " : "").append(finder.lasso(i, what)).append(' ');
        }
        return out.toString().trim();
    }

    void end() {
        System.out.println(test + ": " + made + " checks, " + wrong + " wrong");
        System.exit(wrong == 0 ? 0 : 1);
    }
}
