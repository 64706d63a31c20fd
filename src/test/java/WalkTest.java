/** Promises 10, 11 and 12, with the rules of the steps. */
final class WalkTest {
    private static final Checks CHECKS = new Checks("WalkTest");

    public static void main(String[] args) {
        walking();
        sixtySteps();
        withoutWalk();
        channels();
        together();
        elses();
        holding();
        CHECKS.end();
    }

    /** The basic statements of the steps of the walk's state, got by walking there anew. */
    private static String basics(LassoFinder x, int... way) {
        Checks.walk(x, way);
        StringBuilder out = new StringBuilder();
        int steps = x.steps();
        for (int i = 0; i < steps; i++) {
            Checks.walk(x, way);
            out.append(i == 0 ? "" : " ").append(x.go(i));
        }
        Checks.walk(x, way);
        return out.toString();
    }

    private static void walking() {
        LassoFinder x = CHECKS.modelled("a;{a=1;[a=2|a=3]}{-}", 8);
        x.walk();
        CHECKS.same("steps at first", x.steps(), 2);
        CHECKS.same("first step", x.go(0), 0);
        CHECKS.same("steps then", x.steps(), 3);
        CHECKS.throwing("step -1", Checks.IOOBE, () -> x.go(-1));
        CHECKS.throwing("step 3", Checks.IOOBE, () -> x.go(3));
        CHECKS.throwing("step far off", Checks.IOOBE, () -> x.go(Integer.MAX_VALUE));
        CHECKS.throwing("step far below", Checks.IOOBE, () -> x.go(Integer.MIN_VALUE));
        CHECKS.same("nothing was done", x.steps(), 3);
        CHECKS.same("second step", x.go(1), 2);
        CHECKS.same("third step", x.go(0), 3);
        CHECKS.same("only STILL", x.steps(), 1);
        CHECKS.same("STILL", x.go(0), -1);
        CHECKS.same("a is", x.value(0), 3);
        x.walk();
        CHECKS.same("anew", x.value(0), 0);
        CHECKS.same("anew, steps", x.steps(), 2);
    }

    private static void sixtySteps() {
        LassoFinder x = CHECKS.modelled("a;{*[a=a+1]}", 8);
        x.walk();
        for (int i = 0; i < 60; i++) {
            CHECKS.same("step " + i, x.go(0), 0);
        }
        CHECKS.throwing("step 61", Checks.UOE, () -> x.go(0));
        CHECKS.throwing("no such step counts first", Checks.IOOBE, () -> x.go(1));
        CHECKS.same("still there", x.value(0), 4);
        CHECKS.same("steps", x.steps(), 1);
        x.walk();
        CHECKS.same("anew", x.go(0), 0);
        LassoFinder y = CHECKS.modelled("{-}", 2);
        y.walk();
        y.go(0);
        for (int i = 1; i < 60; i++) {
            CHECKS.same("STILL " + i, y.go(0), -1);
        }
        CHECKS.throwing("STILL counts", Checks.UOE, () -> y.go(0));
    }

    private static void withoutWalk() {
        LassoFinder x = new LassoFinder();
        CHECKS.throwing("walk without a model", Checks.ISE, () -> x.walk());
        CHECKS.write(x, "{-}");
        x.model();
        CHECKS.same("steps without a walk", x.steps(), 0);
        CHECKS.throwing("go without a walk", Checks.ISE, () -> x.go(0));
        CHECKS.throwing("go without a walk, no such step", Checks.ISE, () -> x.go(-1));
    }

    private static void channels() {
        LassoFinder x = CHECKS.modelled("#a2;b;{a!1;a!2;a!3}{a?b;(b=1);a?b}", 11);
        CHECKS.same("empty", basics(x), "0");
        CHECKS.same("one", basics(x, 0), "1 3");
        CHECKS.same("full", basics(x, 0, 0), "3");
        CHECKS.same("the first is taken", basics(x, 0, 0, 0), "2 4");
        CHECKS.same("value", x.value(1), 1);
        CHECKS.same("then the second", basics(x, 0, 0, 0, 1), "2 5");
        CHECKS.same("its turn", basics(x, 0, 0, 0, 1, 1), "2");
        CHECKS.same("its value", x.value(1), 2);
    }

    private static void together() {
        LassoFinder x = CHECKS.modelled("#a0;b;c;{[a!3|a!4]}{[a?c|a?b]}{a?b}", 7);
        // SENDs by their numbers, and for each the RECEIVEs by theirs.
        CHECKS.same("all pairs", basics(x), "0 0 0 1 1 1");
        int[] b = {0, 3, 3, 0, 4, 4};
        int[] c = {3, 0, 0, 4, 0, 0};
        for (int i = 0; i < 6; i++) {
            Checks.walk(x, i);
            CHECKS.same("b behind pair " + i, x.value(1), b[i]);
            CHECKS.same("c behind pair " + i, x.value(2), c[i]);
            CHECKS.same("the receiver of pair " + i, x.point(i % 3 == 2 ? 2 : 1), i % 3 == 2 ? 1 : 3);
            CHECKS.same("nothing stays in it", x.value(0), 0);
        }
        LassoFinder y = CHECKS.modelled("#a0;b;{a!1}{(b);a?b}", 1);
        CHECKS.same("the RECEIVE isn't at a point", basics(y), "-1");
        LassoFinder z = CHECKS.modelled("#a0;b;{[a!1|a?b]}", 1);
        CHECKS.same("not with itself", basics(z), "-1");
    }

    private static void elses() {
        LassoFinder x = CHECKS.modelled("a;{*[(a)|~;a=1]}", 3);
        CHECKS.same("nothing else", basics(x), "1");
        CHECKS.same("something else", basics(x, 0, 0), "0");
        LassoFinder y = CHECKS.modelled("#a0;b;{[a?b|~]}{a!1}", 3);
        CHECKS.same("such a RECEIVE doesn't count", basics(y), "1 2");
        LassoFinder z = CHECKS.modelled("#a0;b;{[a!1|~]}{a?b}", 2);
        CHECKS.same("such a SEND does", basics(z), "0");
        LassoFinder v = CHECKS.modelled("#a0;b;{[a!1|~]}{(b);a?b}", 2);
        CHECKS.same("not without a RECEIVE", basics(v), "1");
        LassoFinder w = CHECKS.modelled("a;{[[(a)|~]|~|[(a)]]}", 2);
        CHECKS.same("all ELSE at the point", basics(w), "1 2");
        LassoFinder u = CHECKS.modelled("a;{<-;(a);->}{[-|~]}", 5);
        CHECKS.same("whoever holds", basics(u, 0), "3");
        LassoFinder t = CHECKS.modelled("#a1;b;{[a?b|~]}", 2);
        CHECKS.same("an empty channel", basics(t), "1");
        LassoFinder s = CHECKS.modelled("a;{<-;[(a)|~];->}{-}", 8);
        CHECKS.same("the holder's ELSE", basics(s, 0), "2");
    }

    private static void holding() {
        LassoFinder x = CHECKS.modelled("a;{<a=1;a=2>}{-}", 6);
        CHECKS.same("at first", basics(x), "0 2");
        CHECKS.same("held", basics(x, 0), "1");
        CHECKS.same("holder", x.holder(), 0);
        CHECKS.same("not any more", basics(x, 0, 0), "2");
        CHECKS.same("no holder", x.holder(), -1);
        LassoFinder y = CHECKS.modelled("a;{<-;(a);->}{a=1;-}", 12);
        CHECKS.same("the holder can't", basics(y, 0), "3");
        CHECKS.same("it holds", y.holder(), 0);
        CHECKS.same("none holds then", basics(y, 0, 0), "1 4");
        CHECKS.same("no holder then", y.holder(), -1);
        CHECKS.same("it holds again", basics(y, 0, 0, 0), "2");
        LassoFinder z = CHECKS.modelled("#a0;b;{<a!3;->}{<a?b;->}", 4);
        CHECKS.same("both at once", basics(z, 0), "3");
        CHECKS.same("the receiver holds", z.holder(), 1);
        LassoFinder w = CHECKS.modelled("#a0;b;{<a!3;->}{a?b;-}", 4);
        CHECKS.same("the sender alone", basics(w, 0), "1");
        CHECKS.same("the sender holds", w.holder(), 0);
        LassoFinder v = CHECKS.modelled("#a0;b;{<-;a?b;->}{a!1}{-}", 9);
        CHECKS.same("a RECEIVE isn't what it can do", basics(v, 0), "3 4");
        CHECKS.same("it holds by receiving", basics(v, 0, 0), "2");
        CHECKS.same("holder by receiving", v.holder(), 0);
        LassoFinder u = CHECKS.modelled("a;{<-;(a)>}", 2);
        CHECKS.same("STILL of a holder", basics(u, 0, 0), "-1");
        CHECKS.same("it holds on", u.holder(), 0);
        LassoFinder t = CHECKS.modelled("{<*[-;-]>}{-}", 6);
        CHECKS.same("held at a repetition", basics(t, 0, 0), "0");
        CHECKS.same("holder at a repetition", t.holder(), 0);
        LassoFinder s = CHECKS.modelled("{*[<-;->]}{-}", 4);
        CHECKS.same("not around the atomic", basics(s, 0, 0), "0 2");
        LassoFinder r = CHECKS.modelled("{<:A-;->;^A}{-}", 6);
        CHECKS.same("back into the same atomic", basics(r, 0, 0), "0");
        CHECKS.same("its holder", r.holder(), 0);
        LassoFinder q = CHECKS.modelled("{<-;->;<-;->}{-}", 10);
        CHECKS.same("another atomic", basics(q, 0, 0), "2 4");
        CHECKS.same("no holder in another", q.holder(), -1);
    }
}
