import java.util.Arrays;

/**
 * Checks models of processes against formulas about all their runs. A model's text becomes states and steps, and for
 * a formula that isn't true of every run a lasso is found: a run that goes round for ever and makes it false.
 */
public final class LassoFinder {
    private static final int NONE = -1;
    private static final int WALK_LIMIT = 60;
    private static final int WHAT_NUMBER = 0;
    private static final int WHAT_BASIC = 1;
    private static final int WHAT_PARTNER = 2;

    private final Text text;
    private final Names names;
    private final Program program;
    private final ModelReader reader;
    private final Situation situation;
    private final Graph graph;
    private final Formula asked;
    private final Truths truths;
    /** Made for the first formula that is verified, since its rows are by far the longest. */
    private LassoSearch search;
    private final int[] walked;
    private int walkLength;
    private boolean hasModel;
    private boolean hasFormula;

    public LassoFinder() {
        text = new Text();
        names = new Names();
        program = new Program();
        Terms terms = new Terms(text, names);
        reader = new ModelReader(text, names, terms, program);
        situation = new Situation(names, terms, program);
        graph = new Graph(situation);
        asked = new Formula(text, names, program);
        truths = new Truths(graph, situation, asked);
        walked = new int[WALK_LIMIT + 1];
        walkLength = NONE;
    }

    public boolean write(long w) {
        return text.append(w);
    }

    public int model() throws IllegalArgumentException, UnsupportedOperationException {
        hasModel = false;
        walkLength = NONE;
        dropFormula();
        text.open();
        reader.readAll();
        if (!graph.explore()) {
            throw new UnsupportedOperationException();
        }
        hasModel = true;
        return graph.states;
    }

    public int formula() throws IllegalStateException, IllegalArgumentException {
        dropFormula();
        text.open();
        if (!hasModel) {
            throw new IllegalStateException();
        }
        asked.readAll();
        truths.fill();
        hasFormula = true;
        return asked.temporals;
    }

    public int place() {
        return text.wrongAt;
    }

    public boolean verify() throws IllegalStateException {
        if (!hasFormula) {
            throw new IllegalStateException();
        }
        if (search == null) {
            search = new LassoSearch(graph, truths);
        }
        return !search.find();
    }

    public int stem() {
        return hasLasso() ? search.stemLength : NONE;
    }

    public int cycle() {
        return hasLasso() ? search.cycleLength : 0;
    }

    public int lasso(int i, int what) throws IndexOutOfBoundsException {
        if (!hasLasso() || i < 0 || i >= search.stemLength + search.cycleLength) {
            throw new IndexOutOfBoundsException();
        }
        int step = search.stepOf(i);
        switch (what) {
            case WHAT_NUMBER:
                return step - graph.firstStep[graph.stepFrom[step]];
            case WHAT_BASIC:
                return graph.stepBasic[step];
            case WHAT_PARTNER:
                return graph.stepPartner[step];
            default:
                throw new IndexOutOfBoundsException();
        }
    }

    public void walk() throws IllegalStateException {
        if (!hasModel) {
            throw new IllegalStateException();
        }
        walkLength = 0;
        walked[0] = 0;
    }

    public int steps() {
        return walkLength == NONE ? 0 : graph.stepsFrom(walked[walkLength]);
    }

    public int go(int step) throws IllegalStateException, IndexOutOfBoundsException, UnsupportedOperationException {
        if (walkLength == NONE) {
            throw new IllegalStateException();
        }
        int now = walked[walkLength];
        if (step < 0 || step >= graph.stepsFrom(now)) {
            throw new IndexOutOfBoundsException();
        }
        if (walkLength == WALK_LIMIT) {
            throw new UnsupportedOperationException();
        }
        int chosen = graph.firstStep[now] + step;
        walkLength++;
        walked[walkLength] = graph.stepTo[chosen];
        return graph.stepBasic[chosen];
    }

    public int value(int name) {
        if (!standsOnWalk() || name < 0 || name >= Names.LIMIT || names.kinds[name] == Names.UNKNOWN) {
            return NONE;
        }
        return situation.amounts[name];
    }

    public int message(int name, int k) {
        if (!standsOnWalk() || name < 0 || name >= Names.LIMIT || names.kinds[name] != Names.CHANNEL) {
            return NONE;
        }
        return k < 0 || k >= situation.amounts[name] ? NONE : situation.messageAt(name, k);
    }

    public int point(int process) {
        if (!standsOnWalk() || process < 0 || process >= program.processes) {
            return NONE;
        }
        return situation.points[process];
    }

    public int holder() {
        return standsOnWalk() ? situation.holding : NONE;
    }

    public boolean truth(int k) throws IllegalStateException, IllegalArgumentException {
        if (walkLength == NONE || !hasFormula) {
            throw new IllegalStateException();
        }
        if (k < 0 || k >= walkLength || walked[k] != walked[walkLength]) {
            throw new IllegalArgumentException();
        }
        return truths.ofRound(walked, walkLength, k);
    }

    public int count(int what) {
        switch (what) {
            case 0:
                return hasModel ? graph.states : 0;
            case 1:
                return hasModel ? graph.steps : 0;
            case 2:
                return hasModel ? program.basics : 0;
            case 3:
                return hasModel ? program.processes : 0;
            default:
                return NONE;
        }
    }

    private void dropFormula() {
        hasFormula = false;
        if (search != null) {
            search.found = false;
        }
    }

    private boolean hasLasso() {
        return search != null && search.found;
    }

    /** Takes the walk's state apart; says whether there is one. */
    private boolean standsOnWalk() {
        if (walkLength == NONE) {
            return false;
        }
        situation.unpack(graph.packedStates[walked[walkLength]]);
        return true;
    }

    /** The text that is being written, and the one that is being read. */
    private static final class Text {
        static final int LIMIT = 240;
        private static final int FIRST_SIGN = 33;
        private static final int LAST_SIGN = 126;
        private static final char NOTHING = 0;
        private static final int ALPHABET = 8;
        private static final int BYTE = 8;
        private static final int FIRST_SHIFT = 56;

        private final char[] signs;
        private int written;
        private int end;
        private int at;
        int wrongAt;

        Text() {
            signs = new char[LIMIT];
            wrongAt = NONE;
        }

        boolean append(long w) {
            int more = 0;
            for (int shift = FIRST_SHIFT; shift >= 0; shift -= BYTE) {
                int sign = (int) (w >>> shift) & 255;
                if (sign != 0 && (sign < FIRST_SIGN || sign > LAST_SIGN)) {
                    return false;
                }
                more += sign == 0 ? 0 : 1;
            }
            if (written + more > LIMIT) {
                return false;
            }
            for (int shift = FIRST_SHIFT; shift >= 0; shift -= BYTE) {
                int sign = (int) (w >>> shift) & 255;
                if (sign != 0) {
                    signs[written] = (char) sign;
                    written++;
                }
            }
            return true;
        }

        /** Nothing is written while a text is read, so its signs may stay where they are though it is empty now. */
        void open() {
            end = written;
            written = 0;
            at = 0;
            wrongAt = NONE;
        }

        boolean ended() {
            return at >= end;
        }

        char ahead() {
            return at < end ? signs[at] : NOTHING;
        }

        /** Which of the eight signs from first on is ahead. */
        int oneOf(char first) {
            int number = at < end ? signs[at] - first : NONE;
            return number >= 0 && number < ALPHABET ? number : NONE;
        }

        void skip() {
            at++;
        }

        boolean accept(char sign) {
            if (ahead() != sign) {
                return false;
            }
            at++;
            return true;
        }

        void expect(char sign) {
            if (!accept(sign)) {
                refuse();
            }
        }

        int position() {
            return at;
        }

        void refuse() {
            wrongAt = at;
            throw new IllegalArgumentException();
        }

        void refuseAt(int position) {
            wrongAt = position;
            throw new IllegalArgumentException();
        }
    }

    /** The names that a model declares. */
    private static final class Names {
        static final int LIMIT = 8;
        static final int VARIABLES = 6;
        static final int CHANNELS = 2;
        static final int SLOTS = 3;
        static final int UNKNOWN = 0;
        static final int VARIABLE = 1;
        static final int CHANNEL = 2;

        final int[] kinds;
        /** A variable's first number, or a channel's slots. */
        final int[] digits;
        final int[] variableNames;
        final int[] channelNames;
        int variables;
        int channels;

        Names() {
            kinds = new int[LIMIT];
            digits = new int[LIMIT];
            variableNames = new int[VARIABLES];
            channelNames = new int[CHANNELS];
        }

        void clear() {
            Arrays.fill(kinds, UNKNOWN);
            variables = 0;
            channels = 0;
        }

        boolean hasRoom(int kind) {
            return kind == VARIABLE ? variables < VARIABLES : channels < CHANNELS;
        }

        void declare(int name, int kind, int digit) {
            kinds[name] = kind;
            digits[name] = digit;
            if (kind == VARIABLE) {
                variableNames[variables] = name;
                variables++;
            } else {
                channelNames[channels] = name;
                channels++;
            }
        }
    }

    /**
     * Expressions, kept as codes in which the sign follows its two sides: reckoning then needs one row and no
     * recursion, and it is done for every state.
     */
    private static final class Terms {
        static final int PARTS = 12;
        static final int OPENS = 4;
        /** Each code but a STOP has a character of its own, and each STOP ends what has two at least. */
        private static final int CODES = 2 * Text.LIMIT;
        /** A "(" and three signs that bind more and more strongly, at each level. */
        private static final int WAITING = 4 * (OPENS + 1);
        private static final int FIRST_NAME = 8;
        private static final int EQUAL = 16;
        private static final int LESS = 17;
        private static final int PLUS = 18;
        private static final int MINUS = 19;
        private static final int TIMES = 20;
        private static final int OPEN = 21;
        private static final int STOP = 22;
        private static final int ALL_BITS = 7;
        /** How strongly EQUAL, LESS, PLUS, MINUS and TIMES bind. */
        private static final int[] STRENGTHS = {0, 0, 1, 1, 2};

        private final Text text;
        private final Names names;
        private final int[] codes;
        private int length;
        private final int[] waiting;
        private int waitingSigns;
        private final int[] sides;
        private int parts;
        private int open;
        private int compared;

        Terms(Text text, Names names) {
            this.text = text;
            this.names = names;
            codes = new int[CODES];
            waiting = new int[WAITING];
            sides = new int[PARTS + 1];
        }

        void clear() {
            length = 0;
        }

        /** Reads an expression within so many open parentheses that aren't its own; answers where its codes begin. */
        int read(int openBefore) {
            int first = length;
            waitingSigns = 0;
            parts = 0;
            open = openBefore;
            compared = 0;
            boolean more = true;
            for (int i = 0; i < Text.LIMIT && more; i++) {
                readOpenings();
                readPart();
                readClosings(openBefore);
                more = readSign();
            }
            if (open > openBefore) {
                text.refuse();
            }
            release(EQUAL);
            add(STOP);
            return first;
        }

        private void readOpenings() {
            for (int i = 0; i < Text.LIMIT && text.ahead() == '('; i++) {
                if (open == OPENS) {
                    text.refuse();
                }
                text.skip();
                open++;
                compared <<= 1;
                putOff(OPEN);
            }
        }

        private void readPart() {
            int digit = text.oneOf('0');
            int name = text.oneOf('a');
            if (parts == PARTS || digit == NONE && (name == NONE || names.kinds[name] == Names.UNKNOWN)) {
                text.refuse();
            }
            text.skip();
            parts++;
            add(digit == NONE ? FIRST_NAME + name : digit);
        }

        private void readClosings(int openBefore) {
            for (int i = 0; i < Text.LIMIT && open > openBefore && text.ahead() == ')'; i++) {
                text.skip();
                release(EQUAL);
                waitingSigns--;
                open--;
                compared >>= 1;
            }
        }

        private boolean readSign() {
            int sign = signOf(text.ahead());
            boolean comparison = sign == EQUAL || sign == LESS;
            if (sign == NONE || comparison && (compared & 1) != 0) {
                return false;
            }
            text.skip();
            release(sign);
            putOff(sign);
            if (comparison) {
                compared |= 1;
            }
            return true;
        }

        private static int signOf(char written) {
            switch (written) {
                case '=':
                    return EQUAL;
                case '<':
                    return LESS;
                case '+':
                    return PLUS;
                case '-':
                    return MINUS;
                case '*':
                    return TIMES;
                default:
                    return NONE;
            }
        }

        private void putOff(int sign) {
            waiting[waitingSigns] = sign;
            waitingSigns++;
        }

        /** Signs that bind as strongly as this one, or more, have both of their sides now. */
        private void release(int sign) {
            for (int i = 0; i < WAITING && waitingSigns > 0; i++) {
                int last = waiting[waitingSigns - 1];
                if (last == OPEN || STRENGTHS[last - EQUAL] < STRENGTHS[sign - EQUAL]) {
                    return;
                }
                codes[length] = last;
                length++;
                waitingSigns--;
            }
        }

        private void add(int code) {
            codes[length] = code;
            length++;
        }

        /** The number that the expression is with these amounts, by name. */
        int reckon(int first, int[] amounts) {
            int height = 0;
            for (int i = first; i < length && codes[i] != STOP; i++) {
                int code = codes[i];
                if (code >= EQUAL) {
                    height--;
                    sides[height - 1] = joined(code, sides[height - 1], sides[height]);
                } else {
                    sides[height] = code >= FIRST_NAME ? amounts[code - FIRST_NAME] : code;
                    height++;
                }
            }
            return sides[0];
        }

        private static int joined(int sign, int left, int right) {
            switch (sign) {
                case EQUAL:
                    return left == right ? 1 : 0;
                case LESS:
                    return left < right ? 1 : 0;
                case PLUS:
                    return left + right & ALL_BITS;
                case MINUS:
                    return left - right & ALL_BITS;
                default:
                    return left * right & ALL_BITS;
            }
        }
    }

    /** The statements of the process that is being read, and what comes behind each. */
    private static final class Tree {
        static final int BASIC = 0;
        static final int SELECTION = 1;
        static final int REPETITION = 2;
        static final int ATOMIC = 3;
        static final int BREAK = 4;
        static final int JUMP = 5;
        static final int END = -2;
        static final int UNSET = -3;
        static final int ENDLESS = -4;

        final int[] kinds;
        /** The selection, repetition or atomic whose body the statement is in. */
        final int[] around;
        final int[] loops;
        final int[] atomics;
        final boolean[] leads;
        private final int[] next;
        private final int[] firstInside;
        /** A statement's point; a jump has none. */
        final int[] pointOf;
        /** A jump's label, a basic statement's number. */
        final int[] number;
        final int[] labelAt;
        final int[] labelled;
        int size;
        int points;

        Tree() {
            kinds = new int[Text.LIMIT];
            around = new int[Text.LIMIT];
            loops = new int[Text.LIMIT];
            atomics = new int[Text.LIMIT];
            leads = new boolean[Text.LIMIT];
            next = new int[Text.LIMIT];
            firstInside = new int[Text.LIMIT];
            pointOf = new int[Text.LIMIT];
            number = new int[Text.LIMIT];
            labelAt = new int[Text.LIMIT];
            labelled = new int[Program.LABELS];
        }

        void clear() {
            size = 0;
            points = 0;
            Arrays.fill(labelled, UNSET);
        }

        /** Adds a statement to the body that is inside another one (or NONE), behind the body's previous one. */
        int add(int kind, int outer, int previous) {
            int added = size;
            size++;
            kinds[added] = kind;
            around[added] = outer;
            loops[added] = loopInside(outer);
            atomics[added] = atomicInside(outer);
            leads[added] = previous == NONE;
            next[added] = NONE;
            pointOf[added] = NONE;
            if (previous != NONE) {
                next[previous] = added;
            } else if (outer != NONE) {
                // Only an atomic's is asked for, whose one body has one first statement.
                firstInside[outer] = added;
            }
            if (kind <= REPETITION) {
                pointOf[added] = points;
                points++;
            }
            return added;
        }

        int loopInside(int outer) {
            if (outer == NONE) {
                return NONE;
            }
            return kinds[outer] == REPETITION ? outer : loops[outer];
        }

        int atomicInside(int outer) {
            if (outer == NONE) {
                return NONE;
            }
            return kinds[outer] == ATOMIC ? outer : atomics[outer];
        }

        int behind(int statement) {
            int now = statement;
            for (int i = 0; i < Text.LIMIT && now != NONE; i++) {
                if (next[now] != NONE) {
                    return next[now];
                }
                now = around[now];
                if (now != NONE && kinds[now] == REPETITION) {
                    return now;
                }
            }
            return END;
        }

        /** The statement with a point that is come to instead; a way longer than all statements goes round. */
        int settled(int statement) {
            int now = statement;
            for (int i = 0; i <= Text.LIMIT; i++) {
                if (now < 0) {
                    return now;
                }
                switch (kinds[now]) {
                    case ATOMIC:
                        now = firstInside[now];
                        break;
                    case BREAK:
                        now = behind(loops[now]);
                        break;
                    case JUMP:
                        now = labelled[number[now]];
                        break;
                    default:
                        return now;
                }
            }
            return ENDLESS;
        }

        int pointAt(int settled) {
            return settled < 0 ? points : pointOf[settled];
        }
    }

    /** What a model's processes do: their basic statements, and which of them are at which point. */
    private static final class Program {
        static final int PROCESSES = 4;
        static final int BASICS = 48;
        static final int POINTS = 30;
        static final int LABELS = 8;
        static final int SET = 0;
        static final int WAIT = 1;
        static final int SEND = 2;
        static final int RECEIVE = 3;
        static final int NOTHING = 4;
        static final int ELSE = 5;
        private static final int STRIDE = POINTS + 1;

        final int[] kinds;
        /** The channel's name, of SEND and RECEIVE. */
        final int[] channel;
        /** The name of the variable that is set or received into. */
        final int[] variable;
        final int[] expression;
        final int[] actor;
        final int[] after;
        /** Whether who has done it stands within the same atomic then. */
        final boolean[] keeps;
        final long[] receives;
        final int[] startPoint;
        final int[] labelPoint;
        private final long[] basicsAt;
        long elses;
        int basics;
        int processes;

        Program() {
            kinds = new int[BASICS];
            channel = new int[BASICS];
            variable = new int[BASICS];
            expression = new int[BASICS];
            actor = new int[BASICS];
            after = new int[BASICS];
            keeps = new boolean[BASICS];
            receives = new long[Names.LIMIT];
            startPoint = new int[PROCESSES];
            labelPoint = new int[PROCESSES * LABELS];
            basicsAt = new long[PROCESSES * STRIDE];
        }

        void clear() {
            Arrays.fill(receives, 0);
            Arrays.fill(startPoint, 0);
            Arrays.fill(labelPoint, NONE);
            Arrays.fill(basicsAt, 0);
            elses = 0;
            basics = 0;
            processes = 0;
        }

        long at(int process, int point) {
            return basicsAt[process * STRIDE + point];
        }

        /** Adds a basic statement of the process that is being read. */
        void add(int kind, int channelName, int variableName, int term) {
            long bit = 1L << basics;
            kinds[basics] = kind;
            channel[basics] = channelName;
            variable[basics] = variableName;
            expression[basics] = term;
            actor[basics] = processes;
            if (kind == RECEIVE) {
                receives[channelName] |= bit;
            } else if (kind == ELSE) {
                elses |= bit;
            }
            basics++;
        }

        /** Takes the points of the process that has been read from its statements. */
        void takeProcess(Tree tree) {
            for (int s = 0; s < tree.size; s++) {
                if (tree.kinds[s] == Tree.BASIC) {
                    takeWay(tree, s);
                    takePlaces(tree, s);
                }
            }
            for (int label = 0; label < LABELS; label++) {
                int set = tree.labelled[label];
                if (set != Tree.UNSET) {
                    labelPoint[processes * LABELS + label] = tree.pointAt(tree.settled(set));
                }
            }
            startPoint[processes] = tree.pointAt(tree.settled(0));
            processes++;
        }

        private void takeWay(Tree tree, int statement) {
            int basic = tree.number[statement];
            int target = tree.settled(tree.behind(statement));
            int atomic = tree.atomics[statement];
            after[basic] = tree.pointAt(target);
            keeps[basic] = atomic != NONE && target >= 0 && tree.atomics[target] == atomic;
        }

        /** A basic statement is at its own point, and at those of the choices that it leads, through atomics too. */
        private void takePlaces(Tree tree, int statement) {
            long bit = 1L << tree.number[statement];
            int now = statement;
            for (int i = 0; i < Text.LIMIT && now != NONE; i++) {
                if (tree.pointOf[now] != NONE) {
                    basicsAt[processes * STRIDE + tree.pointOf[now]] |= bit;
                }
                now = tree.leads[now] ? tree.around[now] : NONE;
            }
        }
    }

    /** Reads a model's text. */
    private static final class ModelReader {
        private static final int OPENS = 6;

        private final Text text;
        private final Names names;
        private final Terms terms;
        private final Program program;
        private final Tree tree;

        ModelReader(Text text, Names names, Terms terms, Program program) {
            this.text = text;
            this.names = names;
            this.terms = terms;
            this.program = program;
            tree = new Tree();
        }

        void readAll() {
            names.clear();
            terms.clear();
            program.clear();
            for (int i = 0; i < Text.LIMIT && text.ahead() != '{'; i++) {
                readDeclaration();
            }
            for (int i = 0; i < Text.LIMIT && (i == 0 || !text.ended()); i++) {
                if (text.ahead() != '{' || program.processes == Program.PROCESSES) {
                    text.refuse();
                }
                text.skip();
                tree.clear();
                readBody(NONE, 0);
                endProcess();
            }
        }

        private void readDeclaration() {
            int kind = text.accept('#') ? Names.CHANNEL : Names.VARIABLE;
            int name = text.oneOf('a');
            if (name == NONE || names.kinds[name] != Names.UNKNOWN || !names.hasRoom(kind)) {
                text.refuse();
            }
            text.skip();
            boolean hasDigit = kind == Names.CHANNEL || text.accept('=');
            int digit = 0;
            if (hasDigit) {
                digit = text.oneOf('0');
                if (digit == NONE || kind == Names.CHANNEL && digit > Names.SLOTS) {
                    text.refuse();
                }
                text.skip();
            }
            names.declare(name, kind, digit);
            text.expect(';');
        }

        private void endProcess() {
            if (text.ahead() != '}') {
                text.refuse();
            }
            checkJumps();
            text.skip();
            program.takeProcess(tree);
        }

        private void checkJumps() {
            for (int s = 0; s < tree.size; s++) {
                if (tree.kinds[s] == Tree.JUMP) {
                    boolean unset = tree.labelled[tree.number[s]] == Tree.UNSET;
                    if (unset || tree.settled(s) == Tree.ENDLESS) {
                        text.refuseAt(tree.labelAt[s]);
                    }
                }
            }
        }

        /** Reads a body inside a statement (or NONE), with so many "[" and "<" open. */
        private void readBody(int outer, int open) {
            int previous = NONE;
            for (int i = 0; i < Text.LIMIT && (i == 0 || text.accept(';')); i++) {
                readLabels();
                previous = readStatement(outer, previous, open);
            }
        }

        private void readLabels() {
            for (int i = 0; i < Text.LIMIT && text.accept(':'); i++) {
                int label = text.oneOf('A');
                if (label == NONE || tree.labelled[label] != Tree.UNSET) {
                    text.refuse();
                }
                text.skip();
                tree.labelled[label] = tree.size;
            }
        }

        private int readStatement(int outer, int previous, int open) {
            switch (text.ahead()) {
                case '[':
                case '*':
                    return readChoice(outer, previous, open);
                case '<':
                    return readAtomic(outer, previous, open);
                case '.':
                    return readBreak(outer, previous);
                case '^':
                    return readJump(outer, previous);
                default:
                    break;
            }
            if (tree.points == Program.POINTS || program.basics == Program.BASICS) {
                text.refuse();
            }
            int added = tree.add(Tree.BASIC, outer, previous);
            tree.number[added] = program.basics;
            switch (text.ahead()) {
                case '-':
                    text.skip();
                    program.add(Program.NOTHING, NONE, NONE, NONE);
                    break;
                case '~':
                    readElse(outer, previous);
                    break;
                case '(':
                    text.skip();
                    program.add(Program.WAIT, NONE, NONE, terms.read(1));
                    text.expect(')');
                    break;
                default:
                    readNamed();
                    break;
            }
            return added;
        }

        private int readChoice(int outer, int previous, int open) {
            if (tree.points == Program.POINTS) {
                text.refuse();
            }
            int kind = text.accept('*') ? Tree.REPETITION : Tree.SELECTION;
            if (text.ahead() != '[' || open == OPENS) {
                text.refuse();
            }
            text.skip();
            int added = tree.add(kind, outer, previous);
            for (int i = 0; i < Text.LIMIT && (i == 0 || text.accept('|')); i++) {
                readBody(added, open + 1);
            }
            text.expect(']');
            return added;
        }

        private int readAtomic(int outer, int previous, int open) {
            if (open == OPENS || tree.atomicInside(outer) != NONE) {
                text.refuse();
            }
            text.skip();
            int added = tree.add(Tree.ATOMIC, outer, previous);
            readBody(added, open + 1);
            text.expect('>');
            return added;
        }

        private int readBreak(int outer, int previous) {
            if (leadsInside(outer, previous) || tree.loopInside(outer) == NONE) {
                text.refuse();
            }
            text.skip();
            return tree.add(Tree.BREAK, outer, previous);
        }

        private int readJump(int outer, int previous) {
            if (leadsInside(outer, previous)) {
                text.refuse();
            }
            text.skip();
            int label = text.oneOf('A');
            if (label == NONE) {
                text.refuse();
            }
            int added = tree.add(Tree.JUMP, outer, previous);
            tree.number[added] = label;
            tree.labelAt[added] = text.position();
            text.skip();
            return added;
        }

        private static boolean leadsInside(int outer, int previous) {
            return outer != NONE && previous == NONE;
        }

        private void readElse(int outer, int previous) {
            if (!leadsInside(outer, previous) || tree.kinds[outer] == Tree.ATOMIC) {
                text.refuse();
            }
            text.skip();
            program.add(Program.ELSE, NONE, NONE, NONE);
        }

        private void readNamed() {
            int name = text.oneOf('a');
            if (name == NONE || names.kinds[name] == Names.UNKNOWN) {
                text.refuse();
            }
            text.skip();
            if (names.kinds[name] == Names.VARIABLE) {
                text.expect('=');
                program.add(Program.SET, NONE, name, terms.read(0));
            } else if (text.accept('!')) {
                program.add(Program.SEND, name, NONE, terms.read(0));
            } else {
                text.expect('?');
                int variable = text.oneOf('a');
                if (variable == NONE || names.kinds[variable] != Names.VARIABLE) {
                    text.refuse();
                }
                text.skip();
                program.add(Program.RECEIVE, name, variable, NONE);
            }
        }
    }

    /** A state taken apart, with what can be done in it and what that changes. */
    private static final class Situation {
        private static final int NUMBER_BITS = 3;
        private static final int NUMBER_MASK = 7;
        private static final int AMOUNT_BITS = 2;
        private static final int AMOUNT_MASK = 3;
        private static final int POINT_BITS = 5;
        private static final int POINT_MASK = 31;

        private final Names names;
        private final Terms terms;
        private final Program program;
        /** By name: a variable's number, or how many messages a channel has. */
        final int[] amounts;
        private final int[] messages;
        final int[] points;
        int holding;
        /** The basic statements at the points of all processes. */
        private long present;

        Situation(Names names, Terms terms, Program program) {
            this.names = names;
            this.terms = terms;
            this.program = program;
            amounts = new int[Names.LIMIT];
            messages = new int[Names.LIMIT * Names.SLOTS];
            points = new int[Program.PROCESSES];
            holding = NONE;
        }

        void begin() {
            Arrays.fill(amounts, 0);
            Arrays.fill(messages, 0);
            for (int v = 0; v < names.variables; v++) {
                int name = names.variableNames[v];
                amounts[name] = names.digits[name];
            }
            System.arraycopy(program.startPoint, 0, points, 0, Program.PROCESSES);
            holding = NONE;
        }

        /** The state in one number: slots without a message are 0, so the same state is always the same number. */
        long packed() {
            long all = holding + 1;
            for (int p = 0; p < Program.PROCESSES; p++) {
                all = all << POINT_BITS | points[p];
            }
            for (int v = 0; v < names.variables; v++) {
                all = all << NUMBER_BITS | amounts[names.variableNames[v]];
            }
            for (int c = 0; c < names.channels; c++) {
                int name = names.channelNames[c];
                all = all << AMOUNT_BITS | amounts[name];
                for (int k = 0; k < Names.SLOTS; k++) {
                    all = all << NUMBER_BITS | messages[name * Names.SLOTS + k];
                }
            }
            return all;
        }

        void unpack(long state) {
            long rest = state;
            for (int c = names.channels - 1; c >= 0; c--) {
                int name = names.channelNames[c];
                for (int k = Names.SLOTS - 1; k >= 0; k--) {
                    messages[name * Names.SLOTS + k] = (int) rest & NUMBER_MASK;
                    rest >>>= NUMBER_BITS;
                }
                amounts[name] = (int) rest & AMOUNT_MASK;
                rest >>>= AMOUNT_BITS;
            }
            for (int v = names.variables - 1; v >= 0; v--) {
                amounts[names.variableNames[v]] = (int) rest & NUMBER_MASK;
                rest >>>= NUMBER_BITS;
            }
            for (int p = Program.PROCESSES - 1; p >= 0; p--) {
                points[p] = (int) rest & POINT_MASK;
                rest >>>= POINT_BITS;
            }
            holding = (int) rest - 1;
        }

        int messageAt(int name, int k) {
            return messages[name * Names.SLOTS + k];
        }

        /** The basic statements that begin a step. */
        long able() {
            present = 0;
            for (int p = 0; p < program.processes; p++) {
                present |= program.at(p, points[p]);
            }
            long able = 0;
            for (int p = 0; p < program.processes; p++) {
                able |= ableOf(program.at(p, points[p]));
            }
            long own = holding == NONE ? 0 : able & program.at(holding, points[holding]);
            return own == 0 ? able : own;
        }

        private long ableOf(long here) {
            long able = 0;
            for (int b = 0; b < program.basics; b++) {
                if ((here >>> b & 1) != 0 && canBeDone(b)) {
                    able |= 1L << b;
                }
            }
            return able == 0 ? here & program.elses : able;
        }

        private boolean canBeDone(int basic) {
            switch (program.kinds[basic]) {
                case Program.SET:
                case Program.NOTHING:
                    return true;
                case Program.WAIT:
                    return terms.reckon(program.expression[basic], amounts) != 0;
                case Program.SEND:
                    return hasFreeSlot(program.channel[basic]) || partners(basic) != 0;
                case Program.RECEIVE:
                    return amounts[program.channel[basic]] > 0;
                default:
                    return false;
            }
        }

        private boolean hasFreeSlot(int channel) {
            return amounts[channel] < names.digits[channel];
        }

        /** The RECEIVEs that are done together with this, one in each of its steps; none if it is done alone. */
        long partners(int basic) {
            if (program.kinds[basic] != Program.SEND || names.digits[program.channel[basic]] > 0) {
                return 0;
            }
            int process = program.actor[basic];
            return program.receives[program.channel[basic]] & present & ~program.at(process, points[process]);
        }

        void perform(int basic, int partner) {
            int term = program.expression[basic];
            int amount = term == NONE ? 0 : terms.reckon(term, amounts);
            switch (program.kinds[basic]) {
                case Program.SET:
                    amounts[program.variable[basic]] = amount;
                    break;
                case Program.SEND:
                    if (partner == NONE) {
                        put(program.channel[basic], amount);
                    } else {
                        amounts[program.variable[partner]] = amount;
                    }
                    break;
                case Program.RECEIVE:
                    amounts[program.variable[basic]] = taken(program.channel[basic]);
                    break;
                default:
                    break;
            }
            holding = NONE;
            passOn(basic);
            if (partner != NONE) {
                passOn(partner);
            }
        }

        private void put(int name, int amount) {
            messages[name * Names.SLOTS + amounts[name]] = amount;
            amounts[name]++;
        }

        private int taken(int name) {
            int first = name * Names.SLOTS;
            int last = first + Names.SLOTS - 1;
            int amount = messages[first];
            for (int slot = first; slot < last; slot++) {
                messages[slot] = messages[slot + 1];
            }
            messages[last] = 0;
            amounts[name]--;
            return amount;
        }

        private void passOn(int basic) {
            int process = program.actor[basic];
            points[process] = program.after[basic];
            if (program.keeps[basic]) {
                holding = process;
            }
        }
    }

    /** The states that the runs come to, with their steps. */
    private static final class Graph {
        static final int STATES = 96;
        static final int STEPS = 400;

        private final Situation situation;
        final long[] packedStates;
        /** The steps of state q are those from firstStep[q] on, up to firstStep[q + 1]. */
        final int[] firstStep;
        final int[] stepFrom;
        final int[] stepTo;
        final int[] stepBasic;
        final int[] stepPartner;
        /** The states from which steps come to state q, from firstSource[q] on, up to firstSource[q + 1]. */
        final int[] firstSource;
        final int[] sources;
        int states;
        int steps;

        Graph(Situation situation) {
            this.situation = situation;
            packedStates = new long[STATES];
            firstStep = new int[STATES + 1];
            stepFrom = new int[STEPS];
            stepTo = new int[STEPS];
            stepBasic = new int[STEPS];
            stepPartner = new int[STEPS];
            firstSource = new int[STATES + 1];
            sources = new int[STEPS];
        }

        int stepsFrom(int state) {
            return firstStep[state + 1] - firstStep[state];
        }

        /** Whether all states and steps have room. */
        boolean explore() {
            states = 0;
            steps = 0;
            situation.begin();
            boolean fits = enter(situation.packed()) != NONE;
            for (int q = 0; q < STATES && q < states && fits; q++) {
                fits = addStepsOf(q);
            }
            if (fits) {
                turnRound();
            }
            return fits;
        }

        private boolean addStepsOf(int state) {
            firstStep[state] = steps;
            situation.unpack(packedStates[state]);
            long able = situation.able();
            boolean fits = true;
            for (int b = 0; b < Program.BASICS && fits; b++) {
                if ((able >>> b & 1) != 0) {
                    fits = addStepsBy(state, b);
                }
            }
            if (fits && steps == firstStep[state]) {
                fits = add(state, state, NONE, NONE);
            }
            firstStep[state + 1] = steps;
            return fits;
        }

        private boolean addStepsBy(int state, int basic) {
            situation.unpack(packedStates[state]);
            long partners = situation.partners(basic);
            if (partners == 0) {
                return addDone(state, basic, NONE);
            }
            boolean fits = true;
            for (int b = 0; b < Program.BASICS && fits; b++) {
                if ((partners >>> b & 1) != 0) {
                    fits = addDone(state, basic, b);
                }
            }
            return fits;
        }

        private boolean addDone(int state, int basic, int partner) {
            situation.unpack(packedStates[state]);
            situation.perform(basic, partner);
            int to = enter(situation.packed());
            return to != NONE && add(state, to, basic, partner);
        }

        private boolean add(int from, int to, int basic, int partner) {
            if (steps == STEPS) {
                return false;
            }
            stepFrom[steps] = from;
            stepTo[steps] = to;
            stepBasic[steps] = basic;
            stepPartner[steps] = partner;
            steps++;
            return true;
        }

        /** The number of a state, a new one if it wasn't come to yet; NONE if there is no room for it. */
        private int enter(long packed) {
            for (int q = 0; q < states; q++) {
                if (packedStates[q] == packed) {
                    return q;
                }
            }
            if (states == STATES) {
                return NONE;
            }
            packedStates[states] = packed;
            states++;
            return states - 1;
        }

        /** The searches go from a state to those before it. */
        private void turnRound() {
            Arrays.fill(firstSource, 0);
            for (int i = 0; i < steps; i++) {
                firstSource[stepTo[i]]++;
            }
            for (int q = 1; q <= states; q++) {
                firstSource[q] += firstSource[q - 1];
            }
            for (int i = steps - 1; i >= 0; i--) {
                int to = stepTo[i];
                firstSource[to]--;
                sources[firstSource[to]] = stepFrom[i];
            }
        }
    }

    /** A formula as a row of parts, each behind those that it is made of. */
    private static final class Formula {
        static final int TEMPORALS = 3;
        static final int NOT = 0;
        static final int AND = 1;
        static final int OR = 2;
        static final int IMPLIES = 3;
        static final int ALWAYS = 4;
        static final int ONCE = 5;
        static final int UNTIL = 6;
        static final int RELEASE = 7;
        static final int TERM = 8;
        static final int STANDS = 9;
        private static final int ATOMS = 8;
        private static final int DEPTH = 8;
        private static final int WEAKEST = 0;

        private final Text text;
        private final Program program;
        final Terms terms;
        final int[] kinds;
        /** The left side or the only one; a term's first code; the process that stands. */
        final int[] left;
        /** The right side; the point at which the process stands. */
        final int[] right;
        /** The parts that are U, R, G or F, inner ones before outer ones. */
        final int[] temporalParts;
        int temporals;
        int size;
        private int temporalSigns;
        private int atoms;

        Formula(Text text, Names names, Program program) {
            this.text = text;
            this.program = program;
            terms = new Terms(text, names);
            kinds = new int[Text.LIMIT];
            left = new int[Text.LIMIT];
            right = new int[Text.LIMIT];
            temporalParts = new int[TEMPORALS];
        }

        void readAll() {
            terms.clear();
            size = 0;
            temporals = 0;
            temporalSigns = 0;
            atoms = 0;
            readFrom(WEAKEST, 0);
            if (!text.ended()) {
                text.refuse();
            }
        }

        /** Reads a formula whose outermost signs between two sides bind as strongly as that, or more. */
        private int readFrom(int strength, int depth) {
            int all = readUnit(depth);
            for (int i = 0; i < Text.LIMIT; i++) {
                int kind = joining(text.ahead());
                if (kind == NONE || strengthOf(kind) < strength) {
                    return all;
                }
                all = readSecond(kind, all, depth);
            }
            return all;
        }

        private int readSecond(int kind, int first, int depth) {
            switch (kind) {
                case IMPLIES:
                    goDeeper(depth);
                    return add(kind, first, readFrom(strengthOf(kind), depth + 1));
                case UNTIL:
                case RELEASE:
                    meetTemporal(depth);
                    return addTemporal(kind, first, readFrom(strengthOf(kind), depth + 1));
                default:
                    text.skip();
                    return add(kind, first, readFrom(strengthOf(kind) + 1, depth));
            }
        }

        private static int joining(char sign) {
            switch (sign) {
                case '>':
                    return IMPLIES;
                case '|':
                    return OR;
                case '&':
                    return AND;
                case 'U':
                    return UNTIL;
                case 'R':
                    return RELEASE;
                default:
                    return NONE;
            }
        }

        private static int strengthOf(int kind) {
            switch (kind) {
                case IMPLIES:
                    return WEAKEST;
                case OR:
                    return 1;
                case AND:
                    return 2;
                default:
                    return 3;
            }
        }

        private int readUnit(int depth) {
            switch (text.ahead()) {
                case '!':
                    goDeeper(depth);
                    return add(NOT, readUnit(depth + 1), NONE);
                case 'G':
                    meetTemporal(depth);
                    return addTemporal(ALWAYS, readUnit(depth + 1), NONE);
                case 'F':
                    meetTemporal(depth);
                    return addTemporal(ONCE, readUnit(depth + 1), NONE);
                case '(':
                    return readBracketed(depth);
                default:
                    return readAtom();
            }
        }

        private int readBracketed(int depth) {
            goDeeper(depth);
            int inner = readFrom(WEAKEST, depth + 1);
            text.expect(')');
            return inner;
        }

        private int readAtom() {
            boolean term = text.ahead() == '{';
            if (atoms == ATOMS || !term && text.ahead() != '@') {
                text.refuse();
            }
            atoms++;
            text.skip();
            if (term) {
                int first = terms.read(0);
                text.expect('}');
                return add(TERM, first, NONE);
            }
            int process = text.oneOf('0');
            if (process == NONE || process >= program.processes) {
                text.refuse();
            }
            text.skip();
            int label = text.oneOf('A');
            int target = label == NONE ? NONE : program.labelPoint[process * Program.LABELS + label];
            if (target == NONE) {
                text.refuse();
            }
            text.skip();
            return add(STANDS, process, target);
        }

        private void goDeeper(int depth) {
            if (depth >= DEPTH) {
                text.refuse();
            }
            text.skip();
        }

        private void meetTemporal(int depth) {
            if (temporalSigns == TEMPORALS) {
                text.refuse();
            }
            temporalSigns++;
            goDeeper(depth);
        }

        private int addTemporal(int kind, int first, int second) {
            int added = add(kind, first, second);
            temporalParts[temporals] = added;
            temporals++;
            return added;
        }

        private int add(int kind, int first, int second) {
            kinds[size] = kind;
            left[size] = first;
            right[size] = second;
            size++;
            return size - 1;
        }
    }

    /**
     * The formula's truth at the states. A GUESS says which of its U, R, G and F are true at a state, a bit for each;
     * the guess at the next state of a run makes that at the state itself. All eight guesses are reckoned at once, as
     * the eight bits of a number.
     */
    private static final class Truths {
        static final int GUESSES = 8;
        private static final int ALL = 255;
        /** Of each bit of a guess: for which of the eight guesses it is set. */
        private static final int[] GUESSED = {0xAA, 0xCC, 0xF0};

        private final Graph graph;
        private final Situation situation;
        private final Formula formula;
        private final int[] parts;
        /** At state * 8 + guess at the next state: the guess at the state. */
        final int[] before;
        /** At state * 8 + guess there: the bits whose U, R, G or F isn't put off there. */
        final int[] settled;
        /** At state * 8 + guess there: whether the formula is true. */
        final boolean[] satisfied;
        /** How many guesses there are. */
        int guesses;
        private int unending;

        Truths(Graph graph, Situation situation, Formula formula) {
            this.graph = graph;
            this.situation = situation;
            this.formula = formula;
            parts = new int[Text.LIMIT];
            before = new int[Graph.STATES * GUESSES];
            settled = new int[Graph.STATES * GUESSES];
            satisfied = new boolean[Graph.STATES * GUESSES];
        }

        void fill() {
            guesses = 1 << formula.temporals;
            unending = 0;
            for (int t = 0; t < formula.temporals; t++) {
                int kind = formula.kinds[formula.temporalParts[t]];
                if (kind == Formula.ALWAYS || kind == Formula.RELEASE) {
                    unending |= 1 << t;
                }
            }
            for (int q = 0; q < graph.states; q++) {
                situation.unpack(graph.packedStates[q]);
                fillBefore(q);
                fillSettled(q);
            }
        }

        private void fillBefore(int state) {
            reckonParts(true);
            for (int g = 0; g < GUESSES; g++) {
                int guess = 0;
                for (int t = 0; t < formula.temporals; t++) {
                    guess |= (parts[formula.temporalParts[t]] >> g & 1) << t;
                }
                before[state * GUESSES + g] = guess;
            }
        }

        private void fillSettled(int state) {
            reckonParts(false);
            int whole = parts[formula.size - 1];
            for (int g = 0; g < GUESSES; g++) {
                int bits = 0;
                for (int t = 0; t < formula.temporals; t++) {
                    bits |= (settledFor(t) >> g & 1) << t;
                }
                settled[state * GUESSES + g] = bits;
                satisfied[state * GUESSES + g] = (whole >> g & 1) != 0;
            }
        }

        /** Reckons each part at the situation's state, for each guess: at the next state, or there. */
        private void reckonParts(boolean guessedNext) {
            int temporal = 0;
            for (int i = 0; i < formula.size; i++) {
                int kind = formula.kinds[i];
                if (kind >= Formula.TERM) {
                    parts[i] = atomHolds(i) ? ALL : 0;
                } else if (kind < Formula.ALWAYS) {
                    parts[i] = joined(i);
                } else {
                    parts[i] = guessedNext ? carried(i, GUESSED[temporal]) : GUESSED[temporal];
                    temporal++;
                }
            }
        }

        private boolean atomHolds(int part) {
            int first = formula.left[part];
            if (formula.kinds[part] == Formula.TERM) {
                return formula.terms.reckon(first, situation.amounts) != 0;
            }
            return situation.points[first] == formula.right[part];
        }

        private int joined(int part) {
            int first = parts[formula.left[part]];
            switch (formula.kinds[part]) {
                case Formula.NOT:
                    return first ^ ALL;
                case Formula.AND:
                    return first & parts[formula.right[part]];
                case Formula.OR:
                    return first | parts[formula.right[part]];
                default:
                    return first ^ ALL | parts[formula.right[part]];
            }
        }

        private int carried(int part, int next) {
            int first = parts[formula.left[part]];
            switch (formula.kinds[part]) {
                case Formula.ALWAYS:
                    return first & next;
                case Formula.ONCE:
                    return first | next;
                case Formula.UNTIL:
                    return parts[formula.right[part]] | first & next;
                default:
                    return parts[formula.right[part]] & (first | next);
            }
        }

        /** A guess that F or U is true, G or R false, mustn't be put off for ever: where it isn't. */
        private int settledFor(int temporal) {
            int part = formula.temporalParts[temporal];
            int guessed = GUESSED[temporal];
            int first = parts[formula.left[part]];
            switch (formula.kinds[part]) {
                case Formula.ALWAYS:
                    return guessed | first ^ ALL;
                case Formula.ONCE:
                    return guessed ^ ALL | first;
                case Formula.UNTIL:
                    return guessed ^ ALL | parts[formula.right[part]];
                default:
                    return guessed | parts[formula.right[part]] ^ ALL;
            }
        }

        /**
         * The formula's truth for a run through these states whose last one is that of number k, from which it goes
         * round. What is put off all the way round is false for U and F and true for G and R; inner ones go first.
         */
        boolean ofRound(int[] run, int last, int k) {
            int guess = unending;
            for (int t = 0; t < formula.temporals; t++) {
                int later = -1 << t;
                guess = backTo(run, last, k, guess & ~later | unending & later);
            }
            guess = backTo(run, k, 0, guess);
            return satisfied[run[0] * GUESSES + guess];
        }

        private int backTo(int[] run, int from, int to, int guessThere) {
            int guess = guessThere;
            for (int i = from - 1; i >= to; i--) {
                guess = before[run[i] * GUESSES + guess];
            }
            return guess;
        }
    }

    /**
     * Finds the lasso among pairs of a state and a guess (SPOTS): a step of the model from state to state goes back
     * from every guess at the second to exactly one at the first, so the searches go backwards.
     */
    private static final class LassoSearch {
        private static final int GUESSES = Truths.GUESSES;
        private static final int SPOTS = Graph.STATES * GUESSES;
        private static final int MASKS = 8;
        /** A cycle goes by a shortest way to a spot for each of the three bits, and back. */
        private static final int CYCLE_LIMIT = 4 * SPOTS;
        /** Entering and leaving each spot, and each step for each guess, with room to spare. */
        private static final int MOVES = 10000;

        private final Graph graph;
        private final Truths truths;
        private final int[] order;
        private final int[] low;
        private final int[] nextSource;
        private final boolean[] isOpen;
        private final int[] path;
        private final int[] opened;
        private int pathLength;
        private int openSpots;
        private int entered;
        /** How many steps from each spot to the nearest that a cycle goes through; then, within a cycle, to its end. */
        private final int[] distance;
        private final int[] queue;
        private int queued;
        private final int[] stemSteps;
        private int[] cycleSteps;
        private int[] triedSteps;
        int stemLength;
        int cycleLength;
        boolean found;

        LassoSearch(Graph graph, Truths truths) {
            this.graph = graph;
            this.truths = truths;
            order = new int[SPOTS];
            low = new int[SPOTS];
            nextSource = new int[SPOTS];
            isOpen = new boolean[SPOTS];
            path = new int[SPOTS];
            opened = new int[SPOTS];
            distance = new int[SPOTS * MASKS];
            queue = new int[SPOTS * MASKS];
            stemSteps = new int[SPOTS];
            cycleSteps = new int[CYCLE_LIMIT];
            triedSteps = new int[CYCLE_LIMIT];
        }

        int stepOf(int i) {
            return i < stemLength ? stemSteps[i] : cycleSteps[i - stemLength];
        }

        /** Whether there is a lasso. */
        boolean find() {
            queued = 0;
            Arrays.fill(distance, NONE);
            markCycles();
            measureStems();
            stemLength = shortestStem();
            found = stemLength != NONE;
            if (found) {
                findCycle(followStem());
            }
            return found;
        }

        /** The guess before the one at a later state, as a spot. */
        private int spotBefore(int state, int guess) {
            return state * GUESSES + truths.before[state * GUESSES + guess];
        }

        /** Puts into the queue each spot from which the steps lead round, past all that mustn't be put off. */
        private void markCycles() {
            Arrays.fill(order, 0);
            entered = 0;
            openSpots = 0;
            for (int spot = 0; spot < graph.states * GUESSES; spot++) {
                if (order[spot] == 0 && spot % GUESSES < truths.guesses) {
                    searchFrom(spot);
                }
            }
        }

        /** Tarjan's search for strongly connected parts, with its own path instead of recursion. */
        private void searchFrom(int root) {
            pathLength = 0;
            enterSpot(root);
            for (int i = 0; i < MOVES && pathLength > 0; i++) {
                int spot = path[pathLength - 1];
                int state = spot / GUESSES;
                if (nextSource[spot] == graph.firstSource[state + 1]) {
                    leaveSpot(spot);
                } else {
                    int earlier = spotBefore(graph.sources[nextSource[spot]], spot % GUESSES);
                    nextSource[spot]++;
                    if (order[earlier] == 0) {
                        enterSpot(earlier);
                    } else if (isOpen[earlier]) {
                        low[spot] = Math.min(low[spot], order[earlier]);
                    }
                }
            }
        }

        private void enterSpot(int spot) {
            entered++;
            order[spot] = entered;
            low[spot] = entered;
            nextSource[spot] = graph.firstSource[spot / GUESSES];
            isOpen[spot] = true;
            opened[openSpots] = spot;
            openSpots++;
            path[pathLength] = spot;
            pathLength++;
        }

        private void leaveSpot(int spot) {
            pathLength--;
            if (pathLength > 0) {
                int later = path[pathLength - 1];
                low[later] = Math.min(low[later], low[spot]);
            }
            if (low[spot] == order[spot]) {
                closePart(spot);
            }
        }

        /** The open spots from this one on are connected with each other, and with no others both ways. */
        private void closePart(int first) {
            int size = 0;
            int met = 0;
            for (int i = openSpots - 1; i >= 0 && (size == 0 || opened[i + 1] != first); i--) {
                met |= truths.settled[opened[i]];
                isOpen[opened[i]] = false;
                size++;
            }
            openSpots -= size;
            boolean round = size > 1 || leadsToItself(first);
            if (round && met == truths.guesses - 1) {
                for (int i = openSpots; i < openSpots + size; i++) {
                    reach(opened[i], 0);
                }
            }
        }

        private boolean leadsToItself(int spot) {
            int state = spot / GUESSES;
            for (int i = graph.firstStep[state]; i < graph.firstStep[state + 1]; i++) {
                if (graph.stepTo[i] == state) {
                    return spotBefore(state, spot % GUESSES) == spot;
                }
            }
            return false;
        }

        private void reach(int place, int far) {
            if (distance[place] == NONE) {
                distance[place] = far;
                queue[queued] = place;
                queued++;
            }
        }

        private void measureStems() {
            for (int i = 0; i < SPOTS && i < queued; i++) {
                int spot = queue[i];
                int state = spot / GUESSES;
                for (int s = graph.firstSource[state]; s < graph.firstSource[state + 1]; s++) {
                    reach(spotBefore(graph.sources[s], spot % GUESSES), distance[spot] + 1);
                }
            }
        }

        private int shortestStem() {
            int shortest = NONE;
            for (int g = 0; g < truths.guesses; g++) {
                int far = truths.satisfied[g] ? NONE : distance[g];
                if (far != NONE && (shortest == NONE || far < shortest)) {
                    shortest = far;
                }
            }
            return shortest;
        }

        /** Takes the first step each time that some guess allows; the guesses at its end, as bits of its last spots. */
        private int followStem() {
            int allowed = 0;
            for (int g = 0; g < truths.guesses; g++) {
                if (!truths.satisfied[g] && distance[g] == stemLength) {
                    allowed |= 1 << g;
                }
            }
            int state = 0;
            for (int i = 0; i < stemLength; i++) {
                int next = 0;
                for (int s = graph.firstStep[state]; s < graph.firstStep[state + 1] && next == 0; s++) {
                    next = allowedBehind(allowed, s, stemLength - i - 1);
                    stemSteps[i] = s;
                }
                allowed = next;
                state = graph.stepTo[stemSteps[i]];
            }
            return allowed;
        }

        private int allowedBehind(int allowed, int step, int far) {
            int next = 0;
            for (int g = 0; g < truths.guesses; g++) {
                int earlier = spotBefore(graph.stepFrom[step], g) % GUESSES;
                if ((allowed >> earlier & 1) != 0 && distance[graph.stepTo[step] * GUESSES + g] == far) {
                    next |= 1 << g;
                }
            }
            return next;
        }

        /** Of the cycles for each guess that the stem allows at its end, the shortest and then the first. */
        private void findCycle(int allowed) {
            int state = stemLength == 0 ? 0 : graph.stepTo[stemSteps[stemLength - 1]];
            cycleLength = NONE;
            for (int g = 0; g < truths.guesses; g++) {
                if ((allowed >> g & 1) != 0) {
                    int spot = state * GUESSES + g;
                    int length = measureCycle(spot);
                    if (length != NONE && (cycleLength == NONE || length <= cycleLength)) {
                        followCycle(spot, length);
                        keepBetter(length);
                    }
                }
            }
        }

        private void keepBetter(int length) {
            boolean better = cycleLength == NONE || length < cycleLength;
            boolean same = !better;
            for (int i = 0; i < length && same; i++) {
                same = triedSteps[i] == cycleSteps[i];
                better = triedSteps[i] < cycleSteps[i];
            }
            if (better) {
                int[] spare = cycleSteps;
                cycleSteps = triedSteps;
                triedSteps = spare;
                cycleLength = length;
            }
        }

        /**
         * Goes backwards from a spot until it is there again, past all that mustn't be put off; how many steps that
         * takes. A place is a spot together with what was met from it on.
         */
        private int measureCycle(int spot) {
            int goal = spot * MASKS + truths.guesses - 1;
            Arrays.fill(distance, NONE);
            queued = 0;
            reach(spot * MASKS, 0);
            for (int i = 0; i < SPOTS * MASKS && i < queued; i++) {
                int place = queue[i];
                int guess = place / MASKS % GUESSES;
                int state = place / MASKS / GUESSES;
                for (int s = graph.firstSource[state]; s < graph.firstSource[state + 1]; s++) {
                    int earlier = spotBefore(graph.sources[s], guess);
                    int met = place % MASKS | truths.settled[earlier];
                    if (earlier * MASKS + met == goal) {
                        return distance[place] + 1;
                    }
                    reach(earlier * MASKS + met, distance[place] + 1);
                }
            }
            return NONE;
        }

        /** Takes the first step each time from which the rest of the cycle can be gone; bits are guess * 8 + met. */
        private void followCycle(int spot, int length) {
            long allowed = 1L << (spot % GUESSES) * MASKS;
            int state = spot / GUESSES;
            for (int i = 0; i < length; i++) {
                long next = 0;
                for (int s = graph.firstStep[state]; s < graph.firstStep[state + 1] && next == 0; s++) {
                    next = allowedRound(allowed, s, length - i - 1);
                    triedSteps[i] = s;
                }
                allowed = next;
                state = graph.stepTo[triedSteps[i]];
            }
        }

        private long allowedRound(long allowed, int step, int far) {
            long next = 0;
            for (int g = 0; g < truths.guesses; g++) {
                int earlier = spotBefore(graph.stepFrom[step], g);
                int place = (graph.stepTo[step] * GUESSES + g) * MASKS;
                for (int met = 0; met < truths.guesses; met++) {
                    int now = met | truths.settled[earlier];
                    if ((allowed >>> (earlier % GUESSES) * MASKS + met & 1) != 0 && canEnd(place, now, far)) {
                        next |= 1L << g * MASKS + now;
                    }
                }
            }
            return next;
        }

        private boolean canEnd(int place, int met, int far) {
            for (int rest = 0; rest < truths.guesses; rest++) {
                if ((met | rest) == truths.guesses - 1 && distance[place + rest] == far) {
                    return true;
                }
            }
            return false;
        }
    }
}
