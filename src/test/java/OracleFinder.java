import java.util.ArrayList;
import java.util.List;

/** The promises 1 to 18 once more, each by its own words and with the Oracle's states: compared by OrderTest. */
final class OracleFinder {
    private static final int MOST_ROWS = 20000;

    private String text = "";
    private int wrongAt = -1;
    /** Null without a model. */
    private Oracle oracle;
    private Oracle.Form asked;
    private int[] lassoNumbers;
    private int stemLength;
    /** The states that the walk came to, with its first one; null without a walk. */
    private List<Integer> walked;

    boolean write(long w) {
        StringBuilder more = new StringBuilder();
        for (int shift = 56; shift >= 0; shift -= 8) {
            int sign = (int) (w >>> shift & 255);
            if (sign != 0) {
                if (sign < 33 || sign > 126) {
                    return false;
                }
                more.append((char) sign);
            }
        }
        if (text.length() + more.length() > 240) {
            return false;
        }
        text += more;
        return true;
    }

    private String taken() {
        String all = text;
        text = "";
        wrongAt = -1;
        asked = null;
        lassoNumbers = null;
        return all;
    }

    int model() {
        String all = taken();
        oracle = null;
        walked = null;
        Oracle read = new Oracle();
        try {
            read.readModel(all);
            read.explore();
        } catch (Oracle.Wrong w) {
            wrongAt = w.place;
            throw new IllegalArgumentException();
        } catch (Oracle.TooMany t) {
            throw new UnsupportedOperationException();
        }
        oracle = read;
        return oracle.states.size();
    }

    int formula() {
        String all = taken();
        if (oracle == null) {
            throw new IllegalStateException();
        }
        try {
            asked = oracle.readFormula(all);
        } catch (Oracle.Wrong w) {
            wrongAt = w.place;
            throw new IllegalArgumentException();
        }
        return oracle.temporals();
    }

    int place() {
        return wrongAt;
    }

    /** Throws Oracle.TooMany, which no promise speaks of, if the Oracle would have to look for too long. */
    boolean verify() {
        if (asked == null) {
            throw new IllegalStateException();
        }
        Oracle.Lasso lasso = oracle.lasso(asked, MOST_ROWS);
        if (lasso == null) {
            return true;
        }
        List<Integer> row = new ArrayList<>(lasso.stem);
        row.addAll(lasso.cycle);
        lassoNumbers = row.stream().mapToInt(Integer::intValue).toArray();
        stemLength = lasso.stem.size();
        return false;
    }

    int stem() {
        return lassoNumbers == null ? -1 : stemLength;
    }

    int cycle() {
        return lassoNumbers == null ? 0 : lassoNumbers.length - stemLength;
    }

    int lasso(int i, int what) {
        if (lassoNumbers == null || i < 0 || i >= lassoNumbers.length || what < 0 || what > 2) {
            throw new IndexOutOfBoundsException();
        }
        int q = 0;
        for (int before = 0; before < i; before++) {
            q = oracle.steps.get(q).get(lassoNumbers[before]).toNumber;
        }
        Oracle.Step step = oracle.steps.get(q).get(lassoNumbers[i]);
        return what == 0 ? lassoNumbers[i] : what == 1 ? step.basic : step.partner;
    }

    void walk() {
        if (oracle == null) {
            throw new IllegalStateException();
        }
        walked = new ArrayList<>();
        walked.add(0);
    }

    private int now() {
        return walked.get(walked.size() - 1);
    }

    /** After how many steps the walk came to its state first, or -1; no promise, but a good k to ask truth for. */
    int firstTimeHere() {
        return walked == null ? -1 : walked.indexOf(now());
    }

    int steps() {
        return walked == null ? 0 : oracle.steps.get(now()).size();
    }

    int go(int step) {
        if (walked == null) {
            throw new IllegalStateException();
        }
        if (step < 0 || step >= steps()) {
            throw new IndexOutOfBoundsException();
        }
        if (walked.size() - 1 == 60) {
            throw new UnsupportedOperationException();
        }
        Oracle.Step done = oracle.steps.get(now()).get(step);
        walked.add(done.toNumber);
        return done.basic;
    }

    int value(int name) {
        if (walked == null || name < 0 || name > 7 || oracle.kinds[name] == 0) {
            return -1;
        }
        Oracle.State state = oracle.states.get(now());
        return oracle.kinds[name] == '#' ? state.queues.get(name).size() : state.vars[name];
    }

    int message(int name, int k) {
        if (walked == null || name < 0 || name > 7 || oracle.kinds[name] != '#') {
            return -1;
        }
        List<Integer> queue = oracle.states.get(now()).queues.get(name);
        return k < 0 || k >= queue.size() ? -1 : queue.get(k);
    }

    int point(int process) {
        if (walked == null || process < 0 || process >= oracle.procs.size()) {
            return -1;
        }
        Oracle.Stmt at = oracle.states.get(now()).at[process];
        return at == null ? oracle.procs.get(process).points : at.point;
    }

    int holder() {
        return walked == null ? -1 : oracle.states.get(now()).holder;
    }

    boolean truth(int k) {
        if (walked == null || asked == null) {
            throw new IllegalStateException();
        }
        int steps = walked.size() - 1;
        if (k < 0 || k > steps - 1 || walked.get(k) != now()) {
            throw new IllegalArgumentException();
        }
        return oracle.isTrue(asked, walked.subList(0, steps), k, 0);
    }

    int count(int what) {
        if (what < 0 || what > 3) {
            return -1;
        }
        if (oracle == null) {
            return 0;
        }
        int[] all = {oracle.states.size(), oracle.stepCount, oracle.basics.size(), oracle.procs.size()};
        return all[what];
    }
}
