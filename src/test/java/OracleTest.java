import java.util.ArrayList;
import java.util.List;

/** Compares the program with the Oracle on many texts: promises 3 to 18. */
final class OracleTest {
    private static final Checks CHECKS = new Checks("OracleTest");
    private static final int PROMISED_CALLS = 512;
    private static final int MOST_FOR_STATE = 70;
    private static final int LEFT_FOR_LASSO = 100;
    /** Models with almost as many states as there may be, for long searches. */
    private static final String[] LARGE = {"a;b;{*[a=a+1|a=0]}{*[(b<5);b=b+1|b=0]}",
        "a;b;{*[a=a+1]}{*[(b<5);b=b+1|b=0]}", "a;b;{*[a=a+1|b=b+1|(b=7);b=0]}",
        "a;b;{*[a=a+1|(a=3);b=b+1|(b=4);b=0]}", "a;{*[a=a+1|a=a-1]}{:A*[-;-;:B-;-;-;-;-;-;-;-;-;-]}",
        "a;b;{*[-;-;-;-;-;-;-;-;-;b=b+1;[(b)|(b=0);[a=1|a=2|a=3];a=0]]}"};
    /** Models and formulas for which the cycle is searched among the most states and guesses. */
    private static final String[] LONG_SEARCHES = {"a;b;{*[a=a+1]}{*[(b<5);b=b+1|b=0]}",
        "((!F{a*2+b=5})|((!{a=2}&{a*2+b=7})R({b<5}U{a*2+b=1})))&{a=7}", "a;b;{*[a=a+1|a=0]}{*[(b<5);b=b+1|b=0]}",
        "(({a*2+b=5}R!{a=1}&{a*2+b=0})R!{b=3})R!{a=5}", "a;b;{*[a=a+1|a=0]}{*[(b<5);b=b+1|b=0]}",
        "((G({a*2+b=4}|!{a=0}))&(!F{a*2+b=7}))&({a*2+b=2}R!{b=2})"};
    private static LassoFinder finder;
    private static int callsLeft;
    private static int modelsFit;
    private static int modelsTooBig;
    private static int modelsWrong;
    private static int formulasFit;
    private static int formulasWrong;
    private static int lassos;
    private static int longLassos;
    private static int skipped;
    private static int truths;
    private static int held;

    public static void main(String[] args) {
        int rounds = args.length > 0 ? Integer.parseInt(args[0]) : 1500;
        long seed = args.length > 1 ? Long.parseLong(args[1]) : 7;
        Dice dice = new Dice(seed);
        for (int i = 0; i < LONG_SEARCHES.length; i += 2) {
            Oracle oracle = new Oracle();
            oracle.readModel(LONG_SEARCHES[i]);
            oracle.explore();
            begin(LONG_SEARCHES[i]);
            used().model();
            tryFormula(oracle, LONG_SEARCHES[i], LONG_SEARCHES[i + 1], dice);
        }
        for (int i = 0; i < rounds; i++) {
            String text = dice.model();
            if (text.length() <= 240) {
                tryModel(text, dice);
            }
            String spoiled = dice.spoiled(text);
            if (spoiled.length() <= 240) {
                tryModel(spoiled, dice);
            }
            if (i % 5 == 0) {
                tryModel(LARGE[dice.upTo(LARGE.length)], dice);
            }
        }
        System.out.println("models " + modelsFit + ", too big " + modelsTooBig + ", wrong " + modelsWrong);
        System.out.println("formulas " + formulasFit + ", wrong " + formulasWrong + "; truths " + truths);
        System.out.println("lassos " + lassos + ", of five steps or more " + longLassos + ", skipped " + skipped);
        CHECKS.same("enough of each kind",
                modelsFit > 100 && modelsTooBig > 10 && modelsWrong > 100 && formulasFit > 100
                && formulasWrong > 30 && lassos > 100 && longLassos > 10 && truths > 50 && held > 50, true);
        CHECKS.end();
    }

    private static void tryModel(String text, Dice dice) {
        Oracle oracle = new Oracle();
        begin(text);
        try {
            oracle.readModel(text);
            oracle.explore();
        } catch (Oracle.Wrong w) {
            modelsWrong++;
            CHECKS.throwing(text, Checks.IAE, () -> used().model());
            CHECKS.same("place of " + text, used().place(), w.place);
            return;
        } catch (Oracle.TooMany t) {
            modelsTooBig++;
            CHECKS.throwing(text, Checks.UOE, () -> used().model());
            CHECKS.same("place of " + text, used().place(), -1);
            return;
        }
        modelsFit++;
        CHECKS.same("states of " + text, Checks.statesOf(used()), oracle.states.size());
        CHECKS.same("count(0) of " + text, used().count(0), oracle.states.size());
        CHECKS.same("count(1) of " + text, used().count(1), oracle.stepCount);
        CHECKS.same("count(2) of " + text, used().count(2), oracle.basics.size());
        CHECKS.same("count(3) of " + text, used().count(3), oracle.procs.size());
        for (int i = 0; i < 3; i++) {
            String formula = dice.formula(dice.upTo(4), 0, text);
            begin(text);
            used().model();
            tryFormula(oracle, text, dice.chance(20) ? dice.spoiled(formula) : formula, dice);
        }
    }

    private static void begin(String model) {
        finder = new LassoFinder();
        callsLeft = PROMISED_CALLS;
        write(model);
    }

    private static void write(String text) {
        callsLeft -= (text.length() + 7) / 8;
        CHECKS.write(finder, text);
    }

    /** The object, for one call more. */
    private static LassoFinder used() {
        callsLeft--;
        if (callsLeft < 0) {
            throw new IllegalStateException("what this call answers is free");
        }
        return finder;
    }

    private static void tryFormula(Oracle oracle, String model, String text, Dice dice) {
        String both = model + " and " + text;
        Oracle.Form form;
        write(text);
        try {
            form = oracle.readFormula(text);
        } catch (Oracle.Wrong w) {
            formulasWrong++;
            CHECKS.throwing(both, Checks.IAE, () -> used().formula());
            CHECKS.same("place of " + both, used().place(), w.place);
            tryWalk(oracle, null, both, dice);
            return;
        }
        formulasFit++;
        CHECKS.same(both, used().formula(), oracle.temporals());
        tryWalk(oracle, form, both, dice);
        try {
            Oracle.Lasso lasso = oracle.lasso(form, 20000);
            compareLasso(oracle, form, lasso, both);
        } catch (Oracle.TooMany t) {
            skipped++;
        }
    }

    private static void compareLasso(Oracle oracle, Oracle.Form form, Oracle.Lasso lasso, String both) {
        CHECKS.same("verify of " + both, used().verify(), lasso == null);
        CHECKS.same("stem of " + both, used().stem(), lasso == null ? -1 : lasso.stem.size());
        CHECKS.same("cycle of " + both, used().cycle(), lasso == null ? 0 : lasso.cycle.size());
        if (lasso == null) {
            CHECKS.throwing("lasso of " + both, Checks.IOOBE, () -> used().lasso(0, 0));
            return;
        }
        lassos++;
        List<Integer> row = new ArrayList<>(lasso.stem);
        row.addAll(lasso.cycle);
        longLassos += row.size() > 4 ? 1 : 0;
        CHECKS.throwing("lasso of " + both, Checks.IOOBE, () -> used().lasso(row.size(), 0));
        List<Integer> run = new ArrayList<>();
        int q = 0;
        for (int i = 0; i < row.size(); i++) {
            Oracle.Step step = oracle.steps.get(q).get(row.get(i));
            if (callsLeft >= 3) {
                compareStep(i, row.get(i), step, both);
            }
            run.add(q);
            q = step.toNumber;
        }
        CHECKS.same("truth of the lasso of " + both, oracle.isTrue(form, run, lasso.stem.size(), 0), false);
    }

    private static void compareStep(int i, int number, Oracle.Step due, String both) {
        int[] dues = {number, due.basic, due.partner};
        for (int what = 0; what < 3; what++) {
            String call = "lasso(" + i + ", " + what + ") of " + both;
            try {
                CHECKS.same(call, used().lasso(i, what), dues[what]);
            } catch (IndexOutOfBoundsException e) {
                CHECKS.same(call + " throwing", Checks.IOOBE, Checks.NOTHING);
            }
        }
    }

    private static void tryWalk(Oracle oracle, Oracle.Form form, String both, Dice dice) {
        used().walk();
        List<Integer> run = new ArrayList<>();
        int q = 0;
        int length = dice.upTo(20);
        for (int i = 0; i <= length && callsLeft > MOST_FOR_STATE + LEFT_FOR_LASSO; i++) {
            if (dice.chance(40)) {
                compareState(oracle, q, both);
            }
            compareTruths(oracle, form, run, q, both);
            List<Oracle.Step> steps = oracle.steps.get(q);
            CHECKS.same("steps of " + both, used().steps(), steps.size());
            CHECKS.throwing("go of " + both, Checks.IOOBE, () -> used().go(steps.size()));
            Oracle.Step step = steps.get(dice.upTo(steps.size()));
            CHECKS.same("go of " + both, used().go(steps.indexOf(step)), step.basic);
            run.add(q);
            q = step.toNumber;
        }
    }

    private static void compareState(Oracle oracle, int q, String both) {
        Oracle.State s = oracle.states.get(q);
        held += s.holder >= 0 ? 1 : 0;
        CHECKS.same("holder of " + both, used().holder(), s.holder);
        for (int n = -1; n <= 8; n++) {
            boolean known = n >= 0 && n < 8 && oracle.kinds[n] != 0;
            boolean channel = known && oracle.kinds[n] == '#';
            int due = !known ? -1 : channel ? s.queues.get(n).size() : s.vars[n];
            CHECKS.same("value of " + both, used().value(n), due);
            for (int k = channel ? -1 : 0; k < (channel ? 4 : 1); k++) {
                boolean there = channel && k >= 0 && k < s.queues.get(n).size();
                CHECKS.same("message of " + both, used().message(n, k), there ? s.queues.get(n).get(k) : -1);
            }
        }
        for (int p = -1; p <= 4; p++) {
            boolean known = p >= 0 && p < oracle.procs.size();
            int due = !known ? -1 : s.at[p] == null ? oracle.procs.get(p).points : s.at[p].point;
            CHECKS.same("point of " + both, used().point(p), due);
        }
    }

    private static void compareTruths(Oracle oracle, Oracle.Form form, List<Integer> run, int now, String both) {
        for (int i = -1; i <= run.size(); i++) {
            int k = i;
            if (form == null) {
                CHECKS.throwing("truth of " + both, Checks.ISE, () -> used().truth(k));
            } else if (k < 0 || k == run.size() || run.get(k) != now) {
                CHECKS.throwing("truth of " + both, Checks.IAE, () -> used().truth(k));
            } else {
                truths++;
                CHECKS.same("truth of " + both, used().truth(k), oracle.isTrue(form, run, k, 0));
            }
        }
    }
}
