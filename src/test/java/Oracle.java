import java.util.ArrayDeque;
import java.util.ArrayList;
import java.util.Arrays;
import java.util.HashMap;
import java.util.LinkedHashMap;
import java.util.List;
import java.util.Map;

/**
 * A second reading of the document, written apart from the program and as near to the document's words as it goes: a
 * tree of statements, states as texts, formulas looked at by their definitions. It is slow, and compared with the
 * program by OracleTest.
 */
final class Oracle {
    /** A text is wrong there. */
    static final class Wrong extends RuntimeException {
        private static final long serialVersionUID = 1L;
        final int place;

        Wrong(int place) {
            this.place = place;
        }
    }

    /** More states or steps than a model may have. */
    static final class TooMany extends RuntimeException {
        private static final long serialVersionUID = 1L;
    }

    static final class Expr {
        char sign;
        int digit;
        Expr left;
        Expr right;
    }

    static final class Stmt {
        char kind;
        int name;
        int variable;
        Expr expr;
        int label;
        int labelPlace;
        final List<List<Stmt>> bodies = new ArrayList<>();
        Stmt atomic;
        Stmt loop;
        Stmt after;
        int point = -1;
        int basic = -1;
        Proc proc;

        boolean isBasic() {
            return "=(!?-~".indexOf(kind) >= 0;
        }
    }

    static final class Proc {
        int number;
        List<Stmt> body;
        final Map<Integer, Stmt> labels = new HashMap<>();
        final List<Stmt> jumps = new ArrayList<>();
        int points;
    }

    static final class State {
        final int[] vars = new int[8];
        final List<List<Integer>> queues = new ArrayList<>();
        Stmt[] at;
        int holder = -1;

        State copy() {
            State s = new State();
            System.arraycopy(vars, 0, s.vars, 0, 8);
            for (List<Integer> q : queues) {
                s.queues.add(new ArrayList<>(q));
            }
            s.at = at.clone();
            s.holder = holder;
            return s;
        }

        String key() {
            StringBuilder b = new StringBuilder(Arrays.toString(vars)).append(queues).append(holder);
            for (Stmt s : at) {
                b.append(' ').append(s == null ? -1 : s.point);
            }
            return b.toString();
        }
    }

    static final class Step {
        int basic = -1;
        int partner = -1;
        State to;
        int toNumber;
    }

    static final class Form {
        char sign;
        Form left;
        Form right;
        Expr expr;
        int process;
        Stmt target;
    }

    static final class Lasso {
        List<Integer> stem;
        List<Integer> cycle;
    }

    private String text;
    private int at;
    private int parts;
    private int parens;
    final char[] kinds = new char[8];
    final int[] digits = new int[8];
    final List<Proc> procs = new ArrayList<>();
    final List<Stmt> basics = new ArrayList<>();
    private Proc proc;
    private int temporals;
    private int atoms;
    final List<State> states = new ArrayList<>();
    final List<List<Step>> steps = new ArrayList<>();
    int stepCount;

    // ---- the texts ----

    private char ahead() {
        return at < text.length() ? text.charAt(at) : ' ';
    }

    private char next() {
        char c = ahead();
        at++;
        return c;
    }

    private void need(boolean right) {
        if (!right) {
            throw new Wrong(at);
        }
    }

    private void need(char c) {
        need(ahead() == c);
        at++;
    }

    private static boolean within(char c, char first) {
        return c >= first && c <= first + 7;
    }

    void readModel(String source) {
        text = source;
        at = 0;
        while (ahead() != '{') {
            boolean channel = ahead() == '#';
            if (channel) {
                at++;
            }
            need(within(ahead(), 'a') && kinds[ahead() - 'a'] == 0);
            int same = 0;
            for (char k : kinds) {
                same += k == (channel ? '#' : 'v') ? 1 : 0;
            }
            need(same < (channel ? 2 : 6));
            int name = next() - 'a';
            if (channel) {
                need(ahead() >= '0' && ahead() <= '3');
                digits[name] = next() - '0';
            } else if (ahead() == '=') {
                at++;
                need(within(ahead(), '0'));
                digits[name] = next() - '0';
            }
            kinds[name] = channel ? '#' : 'v';
            need(';');
        }
        do {
            need(ahead() == '{' && procs.size() < 4);
            at++;
            proc = new Proc();
            proc.number = procs.size();
            proc.body = body(0, 0, ' ', false);
            need(ahead() == '}');
            link(proc.body, null, null, null);
            for (Stmt jump : proc.jumps) {
                if (proc.labels.get(jump.label) == null || endless(jump)) {
                    throw new Wrong(jump.labelPlace);
                }
            }
            at++;
            procs.add(proc);
        } while (at < text.length());
    }

    /** The bodies of '[', '*' and '<', and ' ' for a process; loops counts the repetitions around. */
    private List<Stmt> body(int open, int loops, char inside, boolean inAtomic) {
        List<Stmt> list = new ArrayList<>();
        do {
            if (!list.isEmpty()) {
                at++;
            }
            List<Integer> labels = new ArrayList<>();
            while (ahead() == ':') {
                at++;
                need(within(ahead(), 'A'));
                int label = ahead() - 'A';
                need(!proc.labels.containsKey(label) && !labels.contains(label));
                labels.add(label);
                at++;
            }
            int before = at;
            Stmt s = new Stmt();
            s.proc = proc;
            for (int label : labels) {
                proc.labels.put(label, s);
            }
            statement(s, list.isEmpty(), open, loops, inside, inAtomic);
            if (at <= before) {
                throw new IllegalStateException("no way on");
            }
            list.add(s);
        } while (ahead() == ';');
        return list;
    }

    private void statement(Stmt s, boolean first, int open, int loops, char inside, boolean inAtomic) {
        char c = ahead();
        if (c == '[' || c == '*') {
            need(proc.points < 30);
            s.point = proc.points++;
            s.kind = c;
            if (c == '*') {
                at++;
            }
            need(ahead() == '[' && open < 6);
            do {
                at++;
                s.bodies.add(body(open + 1, loops + (c == '*' ? 1 : 0), c, inAtomic));
            } while (ahead() == '|');
            need(']');
        } else if (c == '<') {
            need(open < 6 && !inAtomic);
            at++;
            s.kind = c;
            s.bodies.add(body(open + 1, loops, c, true));
            need('>');
        } else if (c == '.') {
            need(loops > 0 && !(first && inside != ' '));
            s.kind = c;
            at++;
        } else if (c == '^') {
            need(!(first && inside != ' '));
            s.kind = c;
            at++;
            need(within(ahead(), 'A'));
            s.labelPlace = at;
            s.label = next() - 'A';
            proc.jumps.add(s);
        } else {
            basic(s, c, first && (inside == '[' || inside == '*'));
        }
    }

    private void basic(Stmt s, char c, boolean leadsOption) {
        need(c == '(' || c == '-' || c == '~' || within(c, 'a'));
        need(proc.points < 30 && basics.size() < 48);
        need(c != '~' || leadsOption);
        s.point = proc.points++;
        s.basic = basics.size();
        basics.add(s);
        parts = 0;
        parens = 0;
        s.kind = c;
        if (c == '(') {
            parens = 1;
            at++;
            s.expr = expr();
            need(')');
        } else if (within(c, 'a')) {
            need(kinds[c - 'a'] != 0);
            s.name = c - 'a';
            at++;
            s.kind = ahead();
            if (kinds[s.name] == 'v') {
                need('=');
                s.expr = expr();
            } else if (ahead() == '!') {
                at++;
                s.expr = expr();
            } else {
                need('?');
                need(within(ahead(), 'a') && kinds[ahead() - 'a'] == 'v');
                s.variable = next() - 'a';
            }
        } else {
            at++;
        }
    }

    private Expr expr() {
        Expr left = sum();
        if (ahead() == '=' || ahead() == '<') {
            left = joined(next(), left, sum());
        }
        return left;
    }

    private Expr sum() {
        Expr left = product();
        while (ahead() == '+' || ahead() == '-') {
            left = joined(next(), left, product());
        }
        return left;
    }

    private Expr product() {
        Expr left = part();
        while (ahead() == '*') {
            left = joined(next(), left, part());
        }
        return left;
    }

    private static Expr joined(char sign, Expr left, Expr right) {
        Expr e = new Expr();
        e.sign = sign;
        e.left = left;
        e.right = right;
        return e;
    }

    private Expr part() {
        if (ahead() == '(') {
            need(parens < 4);
            parens++;
            at++;
            Expr inner = expr();
            need(')');
            parens--;
            return inner;
        }
        boolean name = within(ahead(), 'a');
        need(parts < 12 && (within(ahead(), '0') || name && kinds[ahead() - 'a'] != 0));
        parts++;
        Expr e = new Expr();
        e.sign = name ? 'n' : 'd';
        e.digit = next() - (name ? 'a' : '0');
        return e;
    }

    Form readFormula(String source) {
        text = source;
        at = 0;
        temporals = 0;
        atoms = 0;
        Form whole = whole(0);
        need(at == text.length());
        return whole;
    }

    int temporals() {
        return temporals;
    }

    private Form whole(int deep) {
        Form left = or(deep);
        if (ahead() == '>') {
            need(deep < 8);
            at++;
            return form('>', left, whole(deep + 1));
        }
        return left;
    }

    private Form or(int deep) {
        Form left = and(deep);
        while (ahead() == '|') {
            at++;
            left = form('|', left, and(deep));
        }
        return left;
    }

    private Form and(int deep) {
        Form left = until(deep);
        while (ahead() == '&') {
            at++;
            left = form('&', left, until(deep));
        }
        return left;
    }

    private Form until(int deep) {
        Form left = unit(deep);
        char c = ahead();
        if (c == 'U' || c == 'R') {
            need(deep < 8 && temporals < 3);
            temporals++;
            at++;
            return form(c, left, until(deep + 1));
        }
        return left;
    }

    private Form unit(int deep) {
        char c = ahead();
        if (c == '!' || c == 'G' || c == 'F') {
            need(deep < 8 && (c == '!' || temporals < 3));
            temporals += c == '!' ? 0 : 1;
            at++;
            return form(c, unit(deep + 1), null);
        }
        if (c == '(') {
            need(deep < 8);
            at++;
            Form inner = whole(deep + 1);
            need(')');
            return inner;
        }
        need((c == '{' || c == '@') && atoms < 8);
        atoms++;
        at++;
        Form f = form(c, null, null);
        if (c == '{') {
            parts = 0;
            parens = 0;
            f.expr = expr();
            need('}');
        } else {
            need(within(ahead(), '0') && ahead() - '0' < procs.size());
            f.process = next() - '0';
            Map<Integer, Stmt> labels = procs.get(f.process).labels;
            need(within(ahead(), 'A') && labels.containsKey(ahead() - 'A'));
            f.target = settled(labels.get(next() - 'A'));
        }
        return f;
    }

    private static Form form(char sign, Form left, Form right) {
        Form f = new Form();
        f.sign = sign;
        f.left = left;
        f.right = right;
        return f;
    }

    // ---- what comes behind ----

    private static void link(List<Stmt> body, Stmt after, Stmt atomic, Stmt loop) {
        for (int i = 0; i < body.size(); i++) {
            Stmt s = body.get(i);
            s.after = i + 1 < body.size() ? body.get(i + 1) : after;
            s.atomic = atomic;
            s.loop = loop;
            for (List<Stmt> inner : s.bodies) {
                if (s.kind == '*') {
                    link(inner, s, atomic, s);
                } else {
                    link(inner, s.after, s.kind == '<' ? s : atomic, loop);
                }
            }
        }
    }

    private static Stmt instead(Stmt s) {
        switch (s.kind) {
            case '<':
                return s.bodies.get(0).get(0);
            case '.':
                return s.loop.after;
            default:
                return s.proc.labels.get(s.label);
        }
    }

    private static boolean needsInstead(Stmt s) {
        return s != null && "<.^".indexOf(s.kind) >= 0;
    }

    /** Jumps to labels that aren't set end too, for this question. */
    private static boolean endless(Stmt jump) {
        List<Stmt> met = new ArrayList<>();
        Stmt s = jump;
        while (needsInstead(s)) {
            if (met.contains(s)) {
                return true;
            }
            met.add(s);
            s = instead(s);
        }
        return false;
    }

    private static Stmt settled(Stmt statement) {
        Stmt s = statement;
        while (needsInstead(s)) {
            s = instead(s);
        }
        return s;
    }

    // ---- states and steps ----

    int reckon(Expr e, State s) {
        switch (e.sign) {
            case 'd':
                return e.digit;
            case 'n':
                return kinds[e.digit] == 'v' ? s.vars[e.digit] : s.queues.get(e.digit).size();
            case '=':
                return reckon(e.left, s) == reckon(e.right, s) ? 1 : 0;
            case '<':
                return reckon(e.left, s) < reckon(e.right, s) ? 1 : 0;
            case '+':
                return (reckon(e.left, s) + reckon(e.right, s)) % 8;
            case '-':
                return (reckon(e.left, s) + 8 - reckon(e.right, s)) % 8;
            default:
                return reckon(e.left, s) * reckon(e.right, s) % 8;
        }
    }

    private static List<Stmt> basicsAt(Stmt s) {
        List<Stmt> all = new ArrayList<>();
        Stmt at = s;
        while (at != null && at.kind == '<') {
            at = at.bodies.get(0).get(0);
        }
        if (at != null && at.isBasic()) {
            all.add(at);
        } else if (at != null) {
            for (List<Stmt> option : at.bodies) {
                all.addAll(basicsAt(option.get(0)));
            }
        }
        return all;
    }

    private List<Stmt> partners(Stmt send, State s) {
        List<Stmt> all = new ArrayList<>();
        for (int p = 0; p < procs.size(); p++) {
            if (p != send.proc.number) {
                for (Stmt b : basicsAt(s.at[p])) {
                    if (b.kind == '?' && b.name == send.name) {
                        all.add(b);
                    }
                }
            }
        }
        return all;
    }

    private boolean can(Stmt b, State s) {
        switch (b.kind) {
            case '=':
            case '-':
                return true;
            case '(':
                return reckon(b.expr, s) != 0;
            case '!':
                return digits[b.name] == 0 ? !partners(b, s).isEmpty() : s.queues.get(b.name).size() < digits[b.name];
            case '?':
                return digits[b.name] > 0 && !s.queues.get(b.name).isEmpty();
            default:
                for (Stmt other : basicsAt(s.at[b.proc.number])) {
                    if (other.kind != '~' && can(other, s)) {
                        return false;
                    }
                }
                return true;
        }
    }

    private static void moveOn(Stmt b, State s) {
        Stmt to = settled(b.after);
        s.at[b.proc.number] = to;
        if (b.atomic != null && to != null && to.atomic == b.atomic) {
            s.holder = b.proc.number;
        }
    }

    private Step done(Stmt b, Stmt partner, State from) {
        Step step = new Step();
        step.basic = b.basic;
        step.partner = partner == null ? -1 : partner.basic;
        State s = from.copy();
        if (b.kind == '=') {
            s.vars[b.name] = reckon(b.expr, from);
        } else if (b.kind == '!' && partner == null) {
            s.queues.get(b.name).add(reckon(b.expr, from));
        } else if (b.kind == '!') {
            s.vars[partner.variable] = reckon(b.expr, from);
        } else if (b.kind == '?') {
            s.vars[b.variable] = s.queues.get(b.name).remove(0);
        }
        s.holder = -1;
        moveOn(b, s);
        if (partner != null) {
            moveOn(partner, s);
        }
        step.to = s;
        return step;
    }

    State first() {
        State s = new State();
        s.at = new Stmt[procs.size()];
        for (int n = 0; n < 8; n++) {
            s.vars[n] = kinds[n] == 'v' ? digits[n] : 0;
            s.queues.add(new ArrayList<>());
        }
        for (Proc p : procs) {
            s.at[p.number] = settled(p.body.get(0));
        }
        return s;
    }

    private List<Step> stepsOf(State s) {
        List<Step> all = new ArrayList<>();
        boolean holderCan = false;
        if (s.holder >= 0) {
            for (Stmt b : basicsAt(s.at[s.holder])) {
                holderCan |= can(b, s);
            }
        }
        for (Stmt b : basics) {
            boolean mayTry = basicsAt(s.at[b.proc.number]).contains(b) && (!holderCan || b.proc.number == s.holder);
            if (mayTry && can(b, s)) {
                if (b.kind == '!' && digits[b.name] == 0) {
                    List<Stmt> partners = partners(b, s);
                    partners.sort((x, y) -> x.basic - y.basic);
                    for (Stmt r : partners) {
                        all.add(done(b, r, s));
                    }
                } else {
                    all.add(done(b, null, s));
                }
            }
        }
        if (all.isEmpty()) {
            Step still = new Step();
            still.to = s.copy();
            all.add(still);
        }
        return all;
    }

    void explore() {
        Map<String, Integer> numbers = new LinkedHashMap<>();
        State first = first();
        states.add(first);
        numbers.put(first.key(), 0);
        for (int q = 0; q < states.size(); q++) {
            List<Step> here = stepsOf(states.get(q));
            steps.add(here);
            stepCount += here.size();
            for (Step step : here) {
                Integer known = numbers.get(step.to.key());
                if (known == null) {
                    known = states.size();
                    numbers.put(step.to.key(), known);
                    states.add(step.to);
                }
                step.toNumber = known;
            }
            if (states.size() > 96 || stepCount > 400) {
                throw new TooMany();
            }
        }
    }

    // ---- formulas ----

    /** By the definitions: at position i of a run whose position behind the last one is that of number k. */
    boolean isTrue(Form f, List<Integer> run, int k, int i) {
        int n = run.size();
        switch (f.sign) {
            case '{':
                return reckon(f.expr, states.get(run.get(i))) != 0;
            case '@':
                return states.get(run.get(i)).at[f.process] == f.target;
            case '!':
                return !isTrue(f.left, run, k, i);
            case '&':
                return isTrue(f.left, run, k, i) && isTrue(f.right, run, k, i);
            case '|':
                return isTrue(f.left, run, k, i) || isTrue(f.right, run, k, i);
            case '>':
                return !isTrue(f.left, run, k, i) || isTrue(f.right, run, k, i);
            default:
                break;
        }
        // All positions behind are met within one more round.
        int end = Math.max(i, k) + (n - k);
        for (int j = i; j < end; j++) {
            int p = j < n ? j : k + (j - n) % (n - k);
            boolean left = isTrue(f.left, run, k, p);
            boolean right = f.right != null && isTrue(f.right, run, k, p);
            switch (f.sign) {
                case 'G':
                    if (!left) {
                        return false;
                    }
                    break;
                case 'F':
                    if (left) {
                        return true;
                    }
                    break;
                case 'U':
                    if (right || !left) {
                        return right;
                    }
                    break;
                default:
                    if (!right || left) {
                        return right;
                    }
                    break;
            }
        }
        return f.sign == 'G' || f.sign == 'R';
    }

    private static void collect(Form f, List<Form> temporal) {
        if (f != null) {
            collect(f.left, temporal);
            collect(f.right, temporal);
            if ("GFUR".indexOf(f.sign) >= 0) {
                temporal.add(f);
            }
        }
    }

    /** At a state, when the temporal parts' truths at the next one are those bits. */
    private boolean withNext(Form f, int q, List<Form> temporal, int next) {
        boolean later = temporal.contains(f) && (next >> temporal.indexOf(f) & 1) != 0;
        switch (f.sign) {
            case '{':
                return reckon(f.expr, states.get(q)) != 0;
            case '@':
                return states.get(q).at[f.process] == f.target;
            case '!':
                return !withNext(f.left, q, temporal, next);
            case '&':
                return withNext(f.left, q, temporal, next) && withNext(f.right, q, temporal, next);
            case '|':
                return withNext(f.left, q, temporal, next) || withNext(f.right, q, temporal, next);
            case '>':
                return !withNext(f.left, q, temporal, next) || withNext(f.right, q, temporal, next);
            case 'G':
                return withNext(f.left, q, temporal, next) && later;
            case 'F':
                return withNext(f.left, q, temporal, next) || later;
            case 'U':
                return withNext(f.right, q, temporal, next) || withNext(f.left, q, temporal, next) && later;
            default:
                return withNext(f.right, q, temporal, next) && (withNext(f.left, q, temporal, next) || later);
        }
    }

    /** A row of steps, told by what it makes of the truths behind it (three bits for each of eight). */
    private static final class Row {
        int state;
        int function;
        Row before;
        int step;

        List<Integer> all() {
            List<Integer> list = new ArrayList<>();
            for (Row r = this; r.before != null; r = r.before) {
                list.add(0, r.step);
            }
            return list;
        }
    }

    private int[][] tables;
    private boolean[][] roots;
    private int unending;
    private int temporalCount;

    private void tabulate(Form f) {
        List<Form> temporal = new ArrayList<>();
        collect(f, temporal);
        temporalCount = temporal.size();
        unending = 0;
        tables = new int[states.size()][8];
        roots = new boolean[states.size()][8];
        for (int t = 0; t < temporalCount; t++) {
            unending |= "GR".indexOf(temporal.get(t).sign) >= 0 ? 1 << t : 0;
        }
        for (int q = 0; q < states.size(); q++) {
            for (int next = 0; next < 8; next++) {
                for (int t = 0; t < temporalCount; t++) {
                    tables[q][next] |= withNext(temporal.get(t), q, temporal, next) ? 1 << t : 0;
                }
                roots[q][next] = withNext(f, q, temporal, next);
            }
        }
    }

    private static int apply(int function, int truths) {
        return function >> 3 * truths & 7;
    }

    private int then(int function, int q) {
        int all = 0;
        for (int truths = 0; truths < 8; truths++) {
            all |= apply(function, tables[q][truths]) << 3 * truths;
        }
        return all;
    }

    private int roundTruths(int function) {
        int truths = unending;
        for (int t = 0; t < temporalCount; t++) {
            int done = (1 << t) - 1;
            truths = apply(function, truths & done | unending & ~done);
        }
        return truths;
    }

    private static Row rowAt(int state) {
        Row row = new Row();
        row.state = state;
        for (int truths = 0; truths < 8; truths++) {
            row.function |= truths << 3 * truths;
        }
        return row;
    }

    private Row longer(Row row, int step) {
        Row next = new Row();
        next.before = row;
        next.step = step;
        next.state = steps.get(row.state).get(step).toNumber;
        next.function = then(row.function, row.state);
        return next;
    }

    /** Null if the formula holds; throws TooMany if there are too many rows to look at. */
    Lasso lasso(Form f, int mostRows) {
        tabulate(f);
        Map<Long, Row> stems = new HashMap<>();
        ArrayDeque<Row> queue = new ArrayDeque<>();
        Row none = rowAt(0);
        stems.put(keyOf(none), none);
        queue.add(none);
        Map<Integer, List<Row>> cyclesAt = new HashMap<>();
        while (!queue.isEmpty()) {
            Row stem = queue.remove();
            if (!cyclesAt.containsKey(stem.state)) {
                cyclesAt.put(stem.state, cyclesOf(stem.state, mostRows));
            }
            for (Row cycle : cyclesAt.get(stem.state)) {
                if (!truthOf(stem, cycle)) {
                    Lasso lasso = new Lasso();
                    lasso.stem = stem.all();
                    lasso.cycle = cycle.all();
                    return lasso;
                }
            }
            for (int i = 0; i < steps.get(stem.state).size(); i++) {
                Row next = longer(stem, i);
                if (stems.putIfAbsent(keyOf(next), next) == null) {
                    queue.add(next);
                }
            }
            if (stems.size() > mostRows) {
                throw new TooMany();
            }
        }
        return null;
    }

    /** The first state's truth needs the truths at the second one, which the rest of the run makes. */
    private boolean truthOf(Row stem, Row cycle) {
        int truths = roundTruths(cycle.function);
        List<Integer> run = new ArrayList<>(stem.all());
        run.addAll(cycle.all());
        List<Integer> passed = new ArrayList<>();
        int q = 0;
        for (int step : run) {
            passed.add(q);
            q = steps.get(q).get(step).toNumber;
        }
        for (int i = passed.size() - 1; i >= 1; i--) {
            truths = tables[passed.get(i)][truths];
        }
        return roots[0][truths];
    }

    private List<Row> cyclesOf(int state, int mostRows) {
        List<Row> cycles = new ArrayList<>();
        Map<Long, Row> met = new HashMap<>();
        ArrayDeque<Row> queue = new ArrayDeque<>();
        queue.add(rowAt(state));
        while (!queue.isEmpty()) {
            Row row = queue.remove();
            for (int i = 0; i < steps.get(row.state).size(); i++) {
                Row next = longer(row, i);
                if (met.putIfAbsent(keyOf(next), next) == null) {
                    queue.add(next);
                    if (next.state == state) {
                        cycles.add(next);
                    }
                }
            }
            if (met.size() > mostRows) {
                throw new TooMany();
            }
        }
        return cycles;
    }

    private static long keyOf(Row row) {
        return (long) row.state << 24 | row.function;
    }
}
