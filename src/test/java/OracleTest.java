import java.util.ArrayList;
import java.util.List;

/** Compares the program with the Oracle on many texts: promises 3 to 18. */
final class OracleTest {
    private static final Checks CHECKS = new Checks("OracleTest");
    private static int modelsFit;
    private static int modelsTooBig;
    private static int modelsWrong;
    private static int formulasFit;
    private static int formulasWrong;
    private static int lassos;
    private static int longLassos;
    private static int skipped;
    private static int truths;
    private static int held;

    public static void main(String[] args) {
        int rounds = args.length > 0 ? Integer.parseInt(args[0]) : 1500;
        long seed = args.length > 1 ? Long.parseLong(args[1]) : 7;
        Dice dice = new Dice(seed);
        for (int i = 0; i < rounds; i++) {
            String text = dice.model();
            if (text.length() <= 240) {
                tryModel(text, dice);
            }
            String spoiled = dice.spoiled(text);
            if (spoiled.length() <= 240) {
                tryModel(spoiled, dice);
            }
        }
        System.out.println("models " + modelsFit + ", too big " + modelsTooBig + ", wrong " + modelsWrong);
        System.out.println("formulas " + formulasFit + ", wrong " + formulasWrong + "; truths " + truths);
        System.out.println("lassos " + lassos + ", of five steps or more " + longLassos + ", skipped " + skipped);
        CHECKS.same("enough of each kind",
                modelsFit > 100 && modelsTooBig > 10 && modelsWrong > 100 && formulasFit > 100
                && formulasWrong > 30 && lassos > 100 && longLassos > 10 && truths > 50 && held > 50, true);
        CHECKS.end();
    }

    private static void tryModel(String text, Dice dice) {
        Oracle oracle = new Oracle();
        LassoFinder x = new LassoFinder();
        CHECKS.write(x, text);
        try {
            oracle.readModel(text);
            oracle.explore();
        } catch (Oracle.Wrong w) {
            modelsWrong++;
            CHECKS.throwing(text, Checks.IAE, () -> x.model());
            CHECKS.same("place of " + text, x.place(), w.place);
            return;
        } catch (Oracle.TooMany t) {
            modelsTooBig++;
            CHECKS.throwing(text, Checks.UOE, () -> x.model());
            CHECKS.same("place of " + text, x.place(), -1);
            return;
        }
        modelsFit++;
        CHECKS.same("states of " + text, Checks.statesOf(x), oracle.states.size());
        CHECKS.same("count(0) of " + text, x.count(0), oracle.states.size());
        CHECKS.same("count(1) of " + text, x.count(1), oracle.stepCount);
        CHECKS.same("count(2) of " + text, x.count(2), oracle.basics.size());
        CHECKS.same("count(3) of " + text, x.count(3), oracle.procs.size());
        for (int i = 0; i < 3; i++) {
            String formula = dice.formula(dice.upTo(4), 0, text);
            tryFormula(x, oracle, text, dice.chance(20) ? dice.spoiled(formula) : formula, dice);
        }
    }

    private static void tryFormula(LassoFinder x, Oracle oracle, String model, String text, Dice dice) {
        String both = model + " and " + text;
        Oracle.Form form;
        CHECKS.write(x, text);
        try {
            form = oracle.readFormula(text);
        } catch (Oracle.Wrong w) {
            formulasWrong++;
            CHECKS.throwing(both, Checks.IAE, () -> x.formula());
            CHECKS.same("place of " + both, x.place(), w.place);
            tryWalk(x, oracle, null, both, dice);
            return;
        }
        formulasFit++;
        CHECKS.same(both, x.formula(), oracle.temporals());
        tryWalk(x, oracle, form, both, dice);
        try {
            Oracle.Lasso lasso = oracle.lasso(form, 20000);
            compareLasso(x, oracle, form, lasso, both);
        } catch (Oracle.TooMany t) {
            skipped++;
        }
    }

    private static void compareLasso(LassoFinder x, Oracle oracle, Oracle.Form form, Oracle.Lasso lasso, String both) {
        CHECKS.same("verify of " + both, x.verify(), lasso == null);
        CHECKS.same("stem of " + both, x.stem(), lasso == null ? -1 : lasso.stem.size());
        CHECKS.same("cycle of " + both, x.cycle(), lasso == null ? 0 : lasso.cycle.size());
        if (lasso == null) {
            CHECKS.throwing("lasso of " + both, Checks.IOOBE, () -> x.lasso(0, 0));
            return;
        }
        lassos++;
        List<Integer> row = new ArrayList<>(lasso.stem);
        row.addAll(lasso.cycle);
        longLassos += row.size() > 4 ? 1 : 0;
        List<Integer> run = new ArrayList<>();
        int q = 0;
        for (int i = 0; i < row.size() && i < x.stem() + x.cycle(); i++) {
            Oracle.Step step = oracle.steps.get(q).get(row.get(i));
            CHECKS.same("lasso(" + i + ", 0) of " + both, x.lasso(i, 0), row.get(i));
            CHECKS.same("lasso(" + i + ", 1) of " + both, x.lasso(i, 1), step.basic);
            CHECKS.same("lasso(" + i + ", 2) of " + both, x.lasso(i, 2), step.partner);
            run.add(q);
            q = step.toNumber;
        }
        CHECKS.throwing("lasso of " + both, Checks.IOOBE, () -> x.lasso(row.size(), 0));
        CHECKS.same("truth of the lasso of " + both, oracle.isTrue(form, run, lasso.stem.size(), 0), false);
    }

    private static void tryWalk(LassoFinder x, Oracle oracle, Oracle.Form form, String both, Dice dice) {
        x.walk();
        List<Integer> run = new ArrayList<>();
        int q = 0;
        int length = dice.upTo(20);
        for (int i = 0; i <= length; i++) {
            compareState(x, oracle, q, both);
            compareTruths(x, oracle, form, run, q, both);
            List<Oracle.Step> steps = oracle.steps.get(q);
            CHECKS.same("steps of " + both, x.steps(), steps.size());
            CHECKS.throwing("go of " + both, Checks.IOOBE, () -> x.go(steps.size()));
            Oracle.Step step = steps.get(dice.upTo(steps.size()));
            CHECKS.same("go of " + both, x.go(steps.indexOf(step)), step.basic);
            run.add(q);
            q = step.toNumber;
        }
    }

    private static void compareState(LassoFinder x, Oracle oracle, int q, String both) {
        Oracle.State s = oracle.states.get(q);
        held += s.holder >= 0 ? 1 : 0;
        CHECKS.same("holder of " + both, x.holder(), s.holder);
        for (int n = -1; n <= 8; n++) {
            boolean known = n >= 0 && n < 8 && oracle.kinds[n] != 0;
            boolean channel = known && oracle.kinds[n] == '#';
            int due = !known ? -1 : channel ? s.queues.get(n).size() : s.vars[n];
            CHECKS.same("value of " + both, x.value(n), due);
            for (int k = -1; k < 4; k++) {
                boolean there = channel && k >= 0 && k < s.queues.get(n).size();
                CHECKS.same("message of " + both, x.message(n, k), there ? s.queues.get(n).get(k) : -1);
            }
        }
        for (int p = -1; p <= 4; p++) {
            boolean known = p >= 0 && p < oracle.procs.size();
            int due = !known ? -1 : s.at[p] == null ? oracle.procs.get(p).points : s.at[p].point;
            CHECKS.same("point of " + both, x.point(p), due);
        }
    }

    private static void compareTruths(LassoFinder x, Oracle oracle, Oracle.Form form, List<Integer> run, int now,
            String both) {
        for (int i = -1; i <= run.size(); i++) {
            int k = i;
            if (form == null) {
                CHECKS.throwing("truth of " + both, Checks.ISE, () -> x.truth(k));
            } else if (k < 0 || k == run.size() || run.get(k) != now) {
                CHECKS.throwing("truth of " + both, Checks.IAE, () -> x.truth(k));
            } else {
                truths++;
                CHECKS.same("truth of " + both, x.truth(k), oracle.isTrue(form, run, k, 0));
            }
        }
    }
}
