/** "Terms": when a formula is true at a state of a run. Each is asked by verify() and by truth(), and denied, too. */
final class MeaningTest {
    private static final Checks CHECKS = new Checks("MeaningTest");

    public static void main(String[] args) {
        expressions();
        nots();
        ands();
        implies();
        always();
        once();
        until();
        release();
        strengths();
        bySides();
        standsAt();
        standsWithInsteads();
        everyRun();
        CHECKS.end();
    }

    /** One run: a is 0, 1, 2, 3, and from there on 2 and 3 in turn. */
    private static void are(boolean due, String... formulas) {
        for (String text : formulas) {
            LassoFinder x = CHECKS.modelled("a;{a=1;a=2;*[a=3;a=2]}", 4);
            Checks.walk(x, 0, 0, 0, 0);
            asked(x, text, 2, due);
            asked(x, "!(" + text + ")", 2, !due);
        }
    }

    private static void asked(LassoFinder x, String text, int k, boolean due) {
        CHECKS.write(x, text);
        CHECKS.throwing("formula " + text, Checks.NOTHING, () -> x.formula());
        CHECKS.same("truth of " + text, x.truth(k), due);
        CHECKS.same("verify of " + text, x.verify(), due);
    }

    private static void expressions() {
        CHECKS.sentence("{ EXPRESSION } (it isn't 0)");
        are(true, "{1}", "{2}", "{7}", "{a=0}", "{a+1}", "{a-1}");
        are(false, "{0}", "{a}", "{a=1}", "{4+4}", "{a*3}");
    }

    private static void nots() {
        CHECKS.sentence("! UNIT");
        are(true, "!{0}", "!{a}", "!!{1}", "!G{a}");
        are(false, "!{1}", "!{7}", "!!{0}", "!F{a}");
    }

    private static void ands() {
        CHECKS.sentence("OR = AND { | AND }. AND = UNTIL { & UNTIL }.");
        are(true, "{1}&{1}", "{1}|{0}", "{0}|{1}", "{1}|{1}", "{0}|{0}|{1}", "{1}&{1}&{1}");
        are(false, "{1}&{0}", "{0}&{1}", "{0}&{0}", "{0}|{0}", "{1}&{1}&{0}", "{0}&{1}&{1}");
    }

    private static void implies() {
        CHECKS.sentence("a > b if a is false or b true");
        are(true, "{0}>{0}", "{0}>{1}", "{1}>{1}", "{a}>{0}");
        are(false, "{1}>{0}", "{a=0}>{a=1}");
    }

    private static void always() {
        CHECKS.sentence("G a if a is true there and at all states behind");
        are(true, "G{1}", "G{a<4}", "FG{a}", "FG!{a<2}", "G(G{a<4}|{a<2})");
        // False there alone, at the next one, at the last before the round, at one of the round alone.
        are(false, "G{0}", "G{a}", "G!{a=1}", "G!{a=2}", "G!{a=3}", "FG{a=3}", "FG{a=2}", "G{a=0}");
    }

    private static void once() {
        CHECKS.sentence("F a if it is at one of these");
        are(true, "F{1}", "F{a=0}", "F{a=1}", "F{a=2}", "F{a=3}", "GF{a=2}", "GF{a=3}", "GF{a}");
        are(false, "F{0}", "F{a=4}", "GF{a=0}", "GF{a=1}", "F({a=1}&F{a=0})", "F({a=1}&{a=2})");
    }

    private static void until() {
        CHECKS.sentence("a U b if b is true there or at a state behind, and a at all states before that");
        are(true, "{0}U{a=0}", "{0}U{1}", "{a=0}U{a=1}", "{a<2}U{a=2}", "{a<3}U{a=3}", "{1}U{a=3}", "{a=5}U{a=0}",
                "F({0}U{a=3})");
        are(false, "{0}U{a}", "{1}U{0}", "{1}U{a=4}", "{a=0}U{a=2}", "{a}U{a=1}", "{a<2}U{a=3}", "{a<4}U{a=4}",
                "!{a=1}U{a=3}");
        // Up to the first that will do, or a later one.
        are(true, "{a<3}U({a=2}&F{a=3})", "{1}U({a=1}|{a=3})", "G({a=2}>({a=2}U{a=3}))");
    }

    private static void release() {
        CHECKS.sentence("a R b if b is true there .. or up to one (with it) where a is true, too");
        are(true, "{0}R{1}", "{0}R{a<4}", "{a=0}R{a=0}", "{a=1}R{a<2}", "{a=3}R{a<4}", "{a=2}R{a<3}", "{1}R{a=0}",
                "F({0}R{a})", "({a=2}&{1})R{a<3}");
        are(false, "{1}R{0}", "{a=1}R{a=0}", "{0}R{a<3}", "{a=2}R{a<2}", "{a=4}R{a<3}", "{1}R{a}", "{0}R{a=0}",
                "{a=3}R{a<3}", "{a=1}R!{a=1}");
        are(true, "G({a=1}R({a=1}|{a=2}|{a=3})|{a=0})");
    }

    private static void strengths() {
        CHECKS.sentence("FORMULA = OR [ > FORMULA ]. OR = AND { | AND }. AND = UNTIL { & UNTIL }.");
        are(true, "{1}|{1}&{0}", "{0}&{0}|{1}", "{0}&{0}>{0}", "{1}|{0}>{1}", "{0}>{0}|{0}", "{0}>{1}&{0}");
        are(false, "({1}|{1})&{0}", "{1}|{0}>{0}", "{1}&{1}>{0}", "({0}>{1})&{0}", "{0}&({0}|{1})");
        CHECKS.sentence("AND = UNTIL { & UNTIL }. UNTIL = UNIT [ ( U | R ) UNTIL ]");
        are(true, "{1}|{1}U{0}", "{0}U{a=0}&{1}", "{1}&{0}U{a=0}", "!{1}U{1}", "!{a=1}U{a=1}", "G{a}U{a=0}",
                "F{0}U{1}", "{a=3}|{1}R{a=0}", "{1}U({1}&{a=3})", "{1}U({0}|{a=3})", "{1}U({1}>{a=3})");
        are(false, "({1}|{1})U{0}", "{0}&{1}U{1}", "{1}U{1}&{a=3}", "{1}U{0}|{a=3}", "{1}U{1}>{a=3}", "!({1}U{1})",
                "G({a}U{a=0})", "{a=0}U({a=1}&{0})", "{1}R{1}&{a=3}", "{1}R{0}|{a=3}");
    }

    private static void bySides() {
        CHECKS.sentence("OR [ > FORMULA ]");
        are(true, "{0}>{0}>{0}", "{1}>{0}>{0}", "{0}>({1}>{0})");
        are(false, "({0}>{0})>{0}", "({0}>{1})>{0}", "{1}>{1}>{0}");
        CHECKS.sentence("UNIT [ ( U | R ) UNTIL ]");
        are(true, "{a=0}U{a=5}U{a=1}", "{1}U{0}R{a}", "({0}R{1})U{a=1}", "({0}R{1})R{a=0}", "{a=0}U{a=1}U{a=2}");
        are(false, "({a=0}U{a=5})U{a=1}", "({1}U{0})R{a}", "{0}R{1}U{a=1}", "{0}R{1}R{a=0}");
    }

    private static void standsAt() {
        CHECKS.sentence("process of that number, from 0, stands at the statement at that label");
        LassoFinder x = CHECKS.modelled("{:A-;:B-}{(0);:A-}", 3);
        Checks.walk(x, 0, 0, 0);
        asked(x, "@0A", 2, true);
        asked(x, "@0B", 2, false);
        asked(x, "@1A", 2, false);
        asked(x, "F@0B", 2, true);
        asked(x, "F@1A", 2, false);
        asked(x, "F(@0A&@0B)", 2, false);
        asked(x, "@0AU@0B", 2, true);
        asked(x, "FG(!@0A&!@0B)", 2, true);
        // At a choice it doesn't stand at what is first in it.
        LassoFinder y = CHECKS.modelled("{:A[:B-|-;:C-]}", 3);
        Checks.walk(y, 1, 0, 0);
        asked(y, "@0A", 2, true);
        CHECKS.write(y, "F@0B");
        y.formula();
        CHECKS.same("truth of F@0B", y.truth(2), false);
        CHECKS.write(y, "F@0C");
        y.formula();
        CHECKS.same("truth of F@0C", y.truth(2), true);
    }

    private static void standsWithInsteads() {
        CHECKS.sentence("stands at the statement at that label, with the insteads");
        LassoFinder x = CHECKS.modelled("{:A<:B-;->;-;:C^D;-;:D-;:E^F;*[-;:F.]}", 5);
        Checks.walk(x, 0, 0, 0, 0, 0);
        asked(x, "@0A&@0B", 4, true);
        asked(x, "@0C|@0D|@0E|@0F", 4, false);
        asked(x, "F(@0C&@0D)", 4, true);
        asked(x, "G(!@0C|@0D)&G(!@0D|@0C)", 4, true);
        // A jump to a break of the last repetition leads to the END.
        asked(x, "FG(@0E&@0F)", 4, true);
        asked(x, "G!(@0D&@0E)", 4, true);
    }

    private static void everyRun() {
        CHECKS.sentence("It HOLDS if it is true at the first state of every run.");
        LassoFinder x = CHECKS.modelled("a;{[a=1|a=2|a=3]}", 4);
        String[] holding = {"{a=0}", "F{a}", "F({a=1}|{a=2}|{a=3})", "F{a=1}>!F{a=2}", "G({a=1}>G{a=1})"};
        String[] not = {"F{a=1}", "F{a=2}", "F{a=3}", "G!{a=1}", "G!{a=3}", "F({a=1}|{a=2})", "F({a=2}|{a=3})", "{a}"};
        for (String text : holding) {
            CHECKS.lasso(x, text, "holds");
        }
        for (String text : not) {
            CHECKS.write(x, text);
            x.formula();
            CHECKS.same("verify of " + text, x.verify(), false);
        }
        // Neither it nor its contrary need hold.
        CHECKS.lasso(x, "F{a=1}", "1 / 0");
        CHECKS.lasso(x, "!F{a=1}", "0 / 0");
    }
}
