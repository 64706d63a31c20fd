/** "Terms": the points of a process, what comes behind each, and where a process stands at first. */
final class PointTest {
    private static final Checks CHECKS = new Checks("PointTest");

    public static void main(String[] args) {
        numbers();
        nextOfBody();
        lastOfSelection();
        lastOfRepetition();
        lastOfAtomic();
        lastOfProcess();
        insteadOfAtomic();
        insteadOfBreak();
        insteadOfJump();
        severalInsteads();
        atFirst();
        basicsAtPoint();
        CHECKS.end();
    }

    /** The points of process 0 along a way by those steps, from the first state on. */
    private static void points(String model, String due, int... way) {
        LassoFinder x = new LassoFinder();
        CHECKS.write(x, model);
        CHECKS.throwing("model " + model, Checks.NOTHING, () -> x.model());
        CHECKS.throwing("walk of " + model, Checks.NOTHING, () -> x.walk());
        StringBuilder got = new StringBuilder();
        got.append(x.point(0));
        for (int step : way) {
            CHECKS.throwing("go of " + model, Checks.NOTHING, () -> x.go(step));
            got.append(' ').append(x.point(0));
        }
        CHECKS.same("points of " + model, got.toString(), due);
    }

    private static void numbers() {
        CHECKS.sentence("its basic statements, selections and repetitions, from 0 .. and behind all its END");
        points("a;{a=1;(1);-;[-];*[-;.]}", "0 1 2 3 5 7", 0, 0, 0, 0, 0);
        points("{-}", "0 1", 0);
        points("{-;-;-;-;-;-;-;-;-;-;-;-;-;-;-;-;-;-;-;-;-;-;-;-;-;-;-;-;-;-}",
                "0 1 2 3 4 5 6 7 8 9 10 11 12 13 14 15 16 17 18 19 20 21 22 23 24 25 26 27 28 29 30 30", new int[31]);
        // Atomics, breaks and jumps have none.
        points("{<->;*[-;^A;:B-;.];:A-;^B}", "0 1 4 3 4", 0, 0, 0, 0);
        LassoFinder x = CHECKS.modelled("{-;-}{-;-;-}", 12);
        Checks.walk(x, 0, 1, 1, 1, 0);
        CHECKS.same("END of the first", x.point(0), 2);
        CHECKS.same("END of the second", x.point(1), 3);
    }

    private static void nextOfBody() {
        CHECKS.sentence("What comes BEHIND a statement is the next one of its body");
        points("{-;-;-}", "0 1 2", 0, 0);
        points("{[-;-;-]}", "0 2 3", 0, 0);
        points("{<-;-;->}", "0 1 2", 0, 0);
        points("{-;*[-;-]}", "0 1 3", 0, 0);
    }

    private static void lastOfSelection() {
        CHECKS.sentence("of an option of a selection, what comes behind the selection");
        points("{[-|-;-];-}", "0 4", 0);
        points("{[-|-;-];-}", "0 3 4", 1, 0);
        points("{[-]}", "0 2", 0);
        points("{[[[-]]];-}", "0 4", 0);
        points("{*[[-]]}", "0 0", 0);
    }

    private static void lastOfRepetition() {
        CHECKS.sentence("of an option of a repetition, the repetition");
        points("{*[-]}", "0 0 0", 0, 0);
        points("{*[-;-|-];-}", "0 2 0 0", 0, 0, 1);
        points("{-;*[-;*[-]]}", "0 1 3 3", 0, 0, 0);
    }

    private static void lastOfAtomic() {
        CHECKS.sentence("of an atomic, what comes behind it");
        points("{<-;->;-}", "0 1 2", 0, 0);
        points("{<->}", "0 1", 0);
        points("{*[<->]}", "0 0", 0);
        points("{[<->];-}", "0 2", 0);
    }

    private static void lastOfProcess() {
        CHECKS.sentence("of a process, its END");
        points("{-}{-}", "0 1", 0);
        points("{-;[-]}", "0 1 3", 0, 0);
        points("{-;<->}", "0 1 2", 0, 0);
        // At its END nothing is done, also where it has the most points.
        LassoFinder x = CHECKS.modelled("{-" + ";-".repeat(29) + "}{-;-}", 93);
        Checks.walk(x, new int[30]);
        CHECKS.same("END", x.point(0), 30);
        CHECKS.same("the other one's step", x.go(0), 30);
        CHECKS.same("one step", x.steps(), 1);
        CHECKS.same("its next one", x.go(0), 31);
        CHECKS.same("STILL", x.go(0), -1);
        CHECKS.same("steps in all", x.count(1), 30 * 3 + 31 * 2 + 1);
    }

    private static void insteadOfAtomic() {
        CHECKS.sentence("Where that is an atomic, the first statement of its body comes instead");
        points("{-;<-;->}", "0 1 2", 0, 0);
        points("{-;<[-];->}", "0 1 3", 0, 0);
        points("{-;<*[-;.]>}", "0 1 3", 0, 0);
    }

    private static void insteadOfBreak() {
        CHECKS.sentence("where it is a break, what comes behind the innermost repetition around it");
        points("{*[-;.];-}", "0 2", 0);
        points("{*[-;.]}", "0 2", 0);
        points("{*[-;[-;.]];-}", "0 2 4", 0, 0);
        points("{*[*[-;.];-];-}", "0 3 0", 0, 0);
        points("{*[-;*[-;.]];-}", "0 2 0", 0, 0);
        points("{*[-;<-;.>];-}", "0 2 3", 0, 0);
        points("{*[*[-];-|-;.];-}", "0 5", 1);
    }

    private static void insteadOfJump() {
        CHECKS.sentence("where it is a jump, the statement at its label");
        points("{-;^A;-;:A-}", "0 2", 0);
        points("{:A-;^A}", "0 0", 0);
        points("{-;^A;[-|-;:A-]}", "0 4 5", 0, 0);
        points("{-;^A;[:A-|-]}", "0 2", 0);
        points("{-;^A;:A[-|-]}", "0 1", 0);
        points("{-;^A;:A*[-|-]}", "0 1", 0);
        points("{-;^A;*[-;:A-]}", "0 3 1", 0, 0);
        points("{-;^B;:A-;:B:C-}", "0 2", 0);
    }

    private static void severalInsteads() {
        CHECKS.sentence("Where that is an atomic .. where it is a break .. where it is a jump");
        points("{-;^A;-;:A^B;-;:B<-;->}", "0 3", 0);
        points("{*[*[-;.];.];-}", "0 3", 0);
        points("{*[-;.];^A;-;:A-}", "0 3", 0);
        points("{*[-;.];<-;->}", "0 2", 0);
        points("{-;^A;*[-;:A.];-}", "0 3", 0);
        points("{-;^A;*[-;:A.]}", "0 3", 0);
        points("{*[-;.;-];-}", "0 3", 0);
        points("{*[<-;^A>];-;:A<->}", "0 3", 0);
        points("{*[-;.;:A-];-;^A}", "0 3 2 0", 0, 0, 0);
        points("{:B-;^C;:A-;^B;:C-;^A}", "0 2 1 0", 0, 0, 0);
    }

    private static void atFirst() {
        CHECKS.sentence("at first at its first statement (with the same insteads)");
        points("{-}", "0");
        points("{[-]}", "0");
        points("{*[-]}", "0");
        points("{<->}", "0");
        points("{<[-]>}", "0");
        points("{^A;-;:A-}", "1");
        points("{^A;-;:A<-;->}", "1");
        points("{^A;*[-;:A.];-}", "2");
        points("{^A;*[-;:A.]}", "2");
        points("{^A;:B-;:A^B}", "0");
        LassoFinder x = CHECKS.modelled("{-}{^A;-;:A-}", 4);
        x.walk();
        CHECKS.same("the second process", x.point(1), 1);
    }

    private static void basicsAtPoint() {
        CHECKS.sentence("a basic one itself, of a selection or repetition those at the first statements");
        LassoFinder x = CHECKS.modelled("{-;-}", 3);
        CHECKS.steps(x, "0");
        LassoFinder y = CHECKS.modelled("{[-;-|-;-|-]}", 4);
        CHECKS.steps(y, "0 2 4");
        LassoFinder z = CHECKS.modelled("{*[-;-|-|-]}", 2);
        CHECKS.steps(z, "0 2 3");
        // Through choices and atomics that are first.
        LassoFinder v = CHECKS.modelled("{[[-|-;-]|*[-|-]|<-;->|<[-|*[-]]>]}", 6);
        CHECKS.steps(v, "0 1 3 4 5 7 8");
        // At what is within a choice, only that.
        LassoFinder w = CHECKS.modelled("{-;^A;[-|[:A-|-]]}", 3);
        CHECKS.steps(w, "2", 0);
        LassoFinder u = CHECKS.modelled("{-;^A;[-|:A[-|-]]}", 3);
        CHECKS.steps(u, "2 3", 0);
        CHECKS.sentence("the process then stands at what comes behind it");
        points("{[[-|-;-]|-]}", "0 4 6", 1, 0);
        points("{*[[-|-];-]}", "0 4 0", 1, 0);
        points("{[*[-|-]|-]}", "0 1 1", 1, 0);
    }
}
