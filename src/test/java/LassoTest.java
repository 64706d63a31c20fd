/** Promises 7, 8 and 9, with the words of "Terms" on THE LASSO. A lasso is written: stem / cycle, by step numbers. */
final class LassoTest {
    private static final Checks CHECKS = new Checks("LassoTest");

    public static void main(String[] args) {
        stemPerhapsNone();
        shortestStem();
        cycleOfOne();
        backToTheState();
        statesAgain();
        shortestCycle();
        firstStem();
        firstCycle();
        stemBeforeCycle();
        falseOfTheRun();
        longest();
        lengthsWithout();
        numbersOfSteps();
        stillSteps();
        pairs();
        noSuchStep();
        noSuchWhat();
        goneThen();
        CHECKS.end();
    }

    private static LassoFinder choosing() {
        return CHECKS.modelled("a;{*[a=1|a=2]}", 3);
    }

    private static void stemPerhapsNone() {
        CHECKS.sentence("the shortest row of steps (perhaps none) from the first state on for which there is a CYCLE");
        LassoFinder x = CHECKS.modelled("a;{*[a=1-a]}", 2);
        CHECKS.lasso(x, "{a}", "/ 0 0");
        CHECKS.same("no stem", x.stem(), 0);
        CHECKS.same("its cycle", x.cycle(), 2);
        LassoFinder y = CHECKS.modelled("a;{a=1;*[-]}", 2);
        CHECKS.lasso(y, "{a}", "0 / 0");
        CHECKS.same("one step of a stem", y.stem(), 1);
        LassoFinder z = CHECKS.modelled("{-;-;-}", 4);
        CHECKS.lasso(z, "{0}", "0 0 0 / 0");
    }

    private static void shortestStem() {
        CHECKS.sentence("the STEM is the shortest row of steps");
        LassoFinder x = CHECKS.modelled("a;{[a=1;a=2;a=3|a=4;a=5|a=6;a=5]}", 7);
        CHECKS.lasso(x, "{0}", "1 0 / 0");
        CHECKS.lasso(x, "FG{a=5}", "0 0 0 / 0");
        CHECKS.lasso(x, "F({a=4}|{a=3})", "2 0 / 0");
        // A shorter stem counts more than a shorter cycle.
        LassoFinder y = CHECKS.modelled("a;{*[a=1;a=2;a=0|-;*[-]]}", 4);
        CHECKS.lasso(y, "{0}", "/ 0 0 0");
        CHECKS.lasso(y, "F{a}", "1 / 0");
    }

    private static void cycleOfOne() {
        CHECKS.sentence("a row of one step or more");
        LassoFinder x = CHECKS.modelled("{*[-]}", 1);
        CHECKS.lasso(x, "{0}", "/ 0");
        CHECKS.same("one step", x.cycle(), 1);
        LassoFinder y = CHECKS.modelled("a;{(a)}", 1);
        CHECKS.lasso(y, "{a}", "/ 0");
        CHECKS.same("STILL", y.lasso(0, 1), -1);
        LassoFinder z = choosing();
        CHECKS.lasso(z, "F{a=2}", "0 / 0");
        CHECKS.lasso(z, "F{a=1}", "1 / 1");
    }

    private static void backToTheState() {
        CHECKS.sentence("from the state come to back to it");
        // The same variables at another point, or with another holder, aren't the same state.
        LassoFinder x = CHECKS.modelled("{*[-;-;-]}", 3);
        CHECKS.lasso(x, "{0}", "/ 0 0 0");
        LassoFinder y = CHECKS.modelled("{[-;^B|<-;:B->;^B]}", 3);
        CHECKS.lasso(y, "{0}", "1 / 0");
        CHECKS.lasso(y, "!{1}", "1 / 0");
        LassoFinder z = CHECKS.modelled("{[-|-];<:B-;^B>}", 3);
        CHECKS.lasso(z, "{0}", "0 0 / 0");
    }

    private static void statesAgain() {
        CHECKS.sentence("(both may come to a state more than once)");
        LassoFinder x = CHECKS.modelled("a;{*[a=1;a=0|a=2;a=0]}", 3);
        CHECKS.lasso(x, "!(F{a=1}&FG!{a=1})", "0 0 / 1 0");
        CHECKS.lasso(x, "!(F{a=2}&FG!{a=2})", "1 0 / 0 0");
        CHECKS.lasso(x, "!G(F{a=1}&F{a=2})", "/ 0 0 1 0");
        CHECKS.lasso(x, "!(F({a=1}&F{a=2}))", "/ 0 0 1 0");
        CHECKS.lasso(x, "!({a<2}U{a=2}&F{a=1})", "/ 0 0 1 0");
        LassoFinder y = CHECKS.modelled("a;{*[a=1;a=0|a=2;a=0|a=3;a=0]}", 4);
        CHECKS.lasso(y, "!(F({a=1}&F{a=2})&G{a<3})", "/ 0 0 1 0");
        CHECKS.lasso(y, "!({a<2}U{a=2}&FG!{a=2})", "1 0 / 0 0");
        CHECKS.lasso(y, "!(F({a=3}&F{a=2})&F{a=1})", "/ 0 0 1 0 2 0");
    }

    private static void shortestCycle() {
        CHECKS.sentence("The cycle is the shortest such one for that stem.");
        LassoFinder x = CHECKS.modelled("a;{*[a=1;a=2;a=3;a=0|a=4;a=5;a=0|a=6;a=0]}", 7);
        CHECKS.lasso(x, "{0}", "/ 2 0");
        CHECKS.lasso(x, "G!{a=5}", "/ 1 0 0");
        CHECKS.lasso(x, "G!{a=2}", "/ 0 0 0 0");
        CHECKS.lasso(x, "F{a=6}", "/ 1 0 0");
        CHECKS.lasso(x, "F({a=6}|{a=5})", "/ 0 0 0 0");
        CHECKS.lasso(x, "!G(F{a=4}&F{a=6})", "/ 1 0 0 2 0");
        // Two ways of being false with cycles that aren't as long: the longer one would be the first.
        LassoFinder y = CHECKS.modelled("a;{*[a=1;a=3;a=0|a=2;a=0]}", 4);
        CHECKS.lasso(y, "F{a=2}&F{a=1}", "/ 1 0");
        CHECKS.lasso(y, "F{a=1}&F{a=2}", "/ 1 0");
    }

    private static void firstStem() {
        CHECKS.sentence("Of several rows that are as short the first one counts: by the numbers of their first steps");
        LassoFinder x = CHECKS.modelled("a;{[a=1|a=2];[a=a+2|a=a+1]}", 6);
        CHECKS.lasso(x, "{0}", "0 0 / 0");
        // The end is 3, 2, 4 or 3.
        CHECKS.lasso(x, "FG{a=3}", "0 1 / 0");
        CHECKS.lasso(x, "FG!{a=4}", "1 0 / 0");
        CHECKS.lasso(x, "FG!{a=3}", "0 0 / 0");
        CHECKS.lasso(x, "F{a=1}", "1 0 / 0");
        CHECKS.lasso(x, "F{a=1}|FG!{a=3}", "1 1 / 0");
        CHECKS.lasso(x, "F{a=2}", "0 0 / 0");
        LassoFinder y = CHECKS.modelled("{-}{-}", 4);
        CHECKS.lasso(y, "{0}", "0 0 / 0");
        CHECKS.same("its basic statements", Checks.lasso(y, 1), "0 1 / -1");
    }

    private static void firstCycle() {
        CHECKS.sentence("by the numbers of their first steps, then of their second ones, and so on");
        LassoFinder x = CHECKS.modelled("a;{*[[a=1|a=3];[a=a+3|a=a+1];a=0]}", 6);
        CHECKS.lasso(x, "{0}", "/ 0 0 0");
        // In the middle it is 4, 2, 6 or 4.
        CHECKS.lasso(x, "G!({a=2}|{a=6})", "/ 0 1 0");
        CHECKS.lasso(x, "G!({a=4}|{a=6})", "/ 0 0 0");
        CHECKS.lasso(x, "G!{a=6}", "/ 1 0 0");
        CHECKS.lasso(x, "F({a=1}|{a=6})", "/ 1 1 0");
        CHECKS.lasso(x, "!G(F{a=2}&F{a=6})", "/ 0 1 0 1 0 0");
        // Two ways of being false, each with its own cycle of the same length.
        LassoFinder y = CHECKS.modelled("a;{*[a=1;a=0|a=2;a=0]}", 3);
        CHECKS.lasso(y, "!(G!{a=1}|G!{a=2})", "/ 0 0");
        CHECKS.lasso(y, "!(G!{a=2}|G!{a=1})", "/ 0 0");
        CHECKS.lasso(y, "F{a=1}&F{a=2}", "/ 0 0");
        CHECKS.lasso(y, "F{a=2}&F{a=1}", "/ 0 0");
        // Their last steps are the same.
        LassoFinder v = CHECKS.modelled("a;{*[[a=1|a=2];a=3;a=0]}", 4);
        CHECKS.lasso(v, "F{a=1}&F{a=2}", "/ 0 0 0");
        CHECKS.lasso(v, "F{a=2}&F{a=1}", "/ 0 0 0");
        CHECKS.lasso(v, "F{a=1}", "/ 1 0 0");
        // Their first ones, too.
        LassoFinder w = CHECKS.modelled("a;{*[-;[a=1|a=2];a=3;a=0]}", 5);
        CHECKS.lasso(w, "F{a=1}&F{a=2}", "/ 0 0 0 0");
        CHECKS.lasso(w, "F{a=2}&F{a=1}", "/ 0 0 0 0");
        LassoFinder z = CHECKS.modelled("{*[-|-|-]}", 1);
        CHECKS.lasso(z, "{0}", "/ 0");
    }

    private static void stemBeforeCycle() {
        CHECKS.sentence("The cycle is the shortest such one for that stem. .. the first one counts");
        LassoFinder x = choosing();
        // Behind stem 1 a cycle of one step would do, but stem 0 is the first one that is as short.
        CHECKS.lasso(x, "G!{a=2}", "0 / 1 0");
        CHECKS.lasso(x, "!G(F{a=1}&F{a=2})", "0 / 1 0");
        CHECKS.lasso(x, "F(G{a=1}|G{a=2})", "0 / 1 0");
        CHECKS.lasso(x, "!(GF{a=2})", "0 / 1 0");
        CHECKS.lasso(x, "!FG{a=2}", "1 / 1");
        CHECKS.lasso(x, "GF{a=1}>F{a=2}", "0 / 0");
    }

    private static void falseOfTheRun() {
        CHECKS.sentence("so that the formula is false of the run by the stem and then the cycle for ever");
        String[] models = {"a;{*[a=1|a=2]}", "a;{*[a=1;a=0|a=2;a=0]}", "a;{[a=1|a=2];[a=a+2|a=a+1]}",
            "a=1;{*[<a=a+1;[(a<3)|~;a=0]>]}{-;*[-]}", "#b0;a;{*[b!a+1|b!a]}{*[b?a]}"};
        String[] formulas = {"{0}", "G{a=0}", "F{a=7}", "GF{a=1}", "FG{a=1}", "{a<2}U{a=3}", "{a=1}R{a<2}",
            "F{a=2}&F{a=1}", "!G(F{a=1}&F{a=2})", "G({a=1}>F{a=2})", "!(F{a=2}&FG!{a=2})", "{a=0}R({a<3}U{a=4})"};
        for (String model : models) {
            for (String formula : formulas) {
                LassoFinder x = new LassoFinder();
                CHECKS.write(x, model);
                x.model();
                CHECKS.write(x, formula);
                x.formula();
                if (!x.verify()) {
                    gone(x, model + " and " + formula);
                }
            }
        }
    }

    /** Walks the lasso, which leads back to the state behind the stem, and asks for the truth of that run. */
    private static void gone(LassoFinder x, String both) {
        x.walk();
        for (int i = 0; i < x.stem() + x.cycle(); i++) {
            int number = x.lasso(i, 0);
            CHECKS.same("step " + i + " of " + both, x.go(number), x.lasso(i, 1));
        }
        CHECKS.throwing("the round of " + both, Checks.NOTHING, () -> x.truth(x.stem()));
        CHECKS.same("truth of " + both, x.truth(x.stem()), false);
    }

    private static void longest() {
        CHECKS.sentence("the shortest row of steps .. a row of one step or more");
        // A way through 96 states.
        LassoFinder x = CHECKS.modelled("a;{*[-;-;-;-;-;-;-;-;-;-;a=a+1;(a)]}", 96);
        CHECKS.lasso(x, "{0}", "0 ".repeat(95) + "/ 0");
        CHECKS.same("the longest stem", x.stem(), 95);
        CHECKS.lasso(x, "FG{a}", "0 ".repeat(95) + "/ 0");
        CHECKS.same("at its end STILL", x.lasso(95, 1), -1);
        // A round through 96 states.
        LassoFinder y = CHECKS.modelled("a;{*[-;-;-;-;-;-;-;-;-;-;-;a=a+1]}", 96);
        CHECKS.lasso(y, "{0}", "/" + " 0".repeat(96));
        CHECKS.same("the longest round", y.cycle(), 96);
        CHECKS.throwing("its last step", Checks.NOTHING, () -> y.lasso(95, 0));
        CHECKS.throwing("behind its last step", Checks.IOOBE, () -> y.lasso(96, 0));
        // A cycle that is longer than there are states: three rounds, each with another choice.
        LassoFinder z = CHECKS.modelled("a;b;{*[-;-;-;-;-;-;-;-;-;b=b+1;[(b)|(b=0);[a=1|a=2|a=3];a=0]]}", 92);
        String round = " 0".repeat(88);
        CHECKS.lasso(z, "!(F{a=1}&F{a=2}&F{a=3})", "/" + round + " 0 0" + round + " 1 0" + round + " 2 0");
    }

    private static void lengthsWithout() {
        CHECKS.sentence("-1 without a lasso .. 0 without a lasso");
        LassoFinder x = new LassoFinder();
        without(x, "a new object");
        CHECKS.write(x, "a;{*[a=1|a=2]}");
        x.model();
        without(x, "a model");
        CHECKS.formula(x, "{0}", 0);
        without(x, "not verified");
        x.verify();
        CHECKS.same("stem", x.stem(), 1);
        CHECKS.same("cycle", x.cycle(), 1);
        CHECKS.formula(x, "{1}", 0);
        x.verify();
        without(x, "one that holds");
    }

    private static void without(LassoFinder x, String when) {
        CHECKS.same("stem, " + when, x.stem(), -1);
        CHECKS.same("cycle, " + when, x.cycle(), 0);
        CHECKS.throwing("lasso, " + when, Checks.IOOBE, () -> x.lasso(0, 0));
    }

    private static void numbersOfSteps() {
        CHECKS.sentence("what 0 its number among the steps of its state, 1 its basic statement");
        LassoFinder x = CHECKS.modelled("a;{-;*[a=1|a=2]}{-}", 8);
        CHECKS.lasso(x, "F{a=1}", "0 1 / 1");
        CHECKS.same("basic statements", Checks.lasso(x, 1), "0 2 / 2");
        CHECKS.same("no RECEIVE", Checks.lasso(x, 2), "-1 -1 / -1");
        CHECKS.sentence("from 0, the cycle's behind the stem's");
        CHECKS.lasso(x, "!(F{a=1}&F{a=2})", "0 0 / 1 0");
        CHECKS.same("stem", x.stem(), 2);
        CHECKS.same("cycle", x.cycle(), 2);
        CHECKS.same("the stem's last", x.lasso(1, 1), 1);
        CHECKS.same("the cycle's first", x.lasso(2, 1), 2);
        CHECKS.same("the cycle's last", x.lasso(3, 1), 1);
    }

    private static void stillSteps() {
        CHECKS.sentence("of STILL 1 is -1");
        LassoFinder x = CHECKS.modelled("{-;-}", 3);
        CHECKS.lasso(x, "{0}", "0 0 / 0");
        CHECKS.same("basic statements", Checks.lasso(x, 1), "0 1 / -1");
        CHECKS.same("no RECEIVE", Checks.lasso(x, 2), "-1 -1 / -1");
    }

    private static void pairs() {
        CHECKS.sentence("(the SEND's, where two are done), 2 the RECEIVE done with it, else -1");
        LassoFinder x = CHECKS.modelled("#a0;b;{*[a!1|-]}{-;*[a?b|a?b]}", 3);
        CHECKS.lasso(x, "G!{b}", "1 0 / 0");
        CHECKS.same("basic statements", Checks.lasso(x, 1), "2 0 / 0");
        CHECKS.same("RECEIVEs", Checks.lasso(x, 2), "-1 3 / 3");
        // One alone from a channel with slots has none with it.
        LassoFinder y = CHECKS.modelled("#a1;b;{*[a!1]}{*[a?b]}", 4);
        CHECKS.lasso(y, "{0}", "0 0 / 0 0");
        CHECKS.same("basic statements", Checks.lasso(y, 1), "0 1 / 0 1");
        CHECKS.same("no RECEIVE with it", Checks.lasso(y, 2), "-1 -1 / -1 -1");
        // The RECEIVE may be the one of number 0.
        LassoFinder z = CHECKS.modelled("#a0;b;{*[a?b]}{*[a!b]}", 1);
        CHECKS.lasso(z, "{0}", "/ 0");
        CHECKS.same("the SEND", z.lasso(0, 1), 1);
        CHECKS.same("the RECEIVE", z.lasso(0, 2), 0);
    }

    private static void noSuchStep() {
        CHECKS.sentence("IndexOutOfBoundsException: no such step");
        LassoFinder x = choosing();
        CHECKS.lasso(x, "G!{a=2}", "0 / 1 0");
        for (int what = 0; what < 3; what++) {
            int asked = what;
            CHECKS.throwing("the first step", Checks.NOTHING, () -> x.lasso(0, asked));
            CHECKS.throwing("the last step", Checks.NOTHING, () -> x.lasso(2, asked));
            for (int i : new int[] {-1, 3, 4, Integer.MAX_VALUE, Integer.MIN_VALUE}) {
                CHECKS.throwing("step " + i, Checks.IOOBE, () -> x.lasso(i, asked));
            }
        }
        // A shorter lasso then has fewer.
        CHECKS.lasso(x, "F{a=2}", "0 / 0");
        CHECKS.throwing("step 1", Checks.NOTHING, () -> x.lasso(1, 0));
        CHECKS.throwing("step 2", Checks.IOOBE, () -> x.lasso(2, 0));
    }

    private static void noSuchWhat() {
        CHECKS.sentence("IndexOutOfBoundsException: no such step or what");
        LassoFinder x = choosing();
        CHECKS.lasso(x, "G!{a=2}", "0 / 1 0");
        for (int i = 0; i < 3; i++) {
            int step = i;
            CHECKS.throwing("what 0", Checks.NOTHING, () -> x.lasso(step, 0));
            CHECKS.throwing("what 2", Checks.NOTHING, () -> x.lasso(step, 2));
            for (int what : new int[] {-1, 3, 4, Integer.MAX_VALUE, Integer.MIN_VALUE}) {
                CHECKS.throwing("what " + what, Checks.IOOBE, () -> x.lasso(step, what));
            }
        }
        CHECKS.throwing("neither", Checks.IOOBE, () -> x.lasso(-1, -1));
        CHECKS.same("the lasso is there yet", x.lasso(1, 0), 1);
    }

    private static void goneThen() {
        CHECKS.sentence("there is no formula, lasso or walk .. there is no lasso (a walk stays)");
        LassoFinder x = choosing();
        CHECKS.lasso(x, "{0}", "0 / 0");
        CHECKS.write(x, "{1}");
        x.walk();
        x.go(0);
        x.verify();
        CHECKS.same("other calls leave it", x.stem(), 1);
        x.formula();
        without(x, "a formula");
        CHECKS.lasso(x, "{0}", "0 / 0");
        CHECKS.write(x, "{-}");
        x.model();
        without(x, "another model");
        CHECKS.lasso(x, "{0}", "0 / 0");
        CHECKS.throwing("a wrong model", Checks.IAE, () -> x.model());
        without(x, "a wrong model");
    }
}
