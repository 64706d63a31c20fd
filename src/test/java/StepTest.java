/** "Terms": which steps a state has, what they do, who holds then, and which states are the same. */
final class StepTest {
    private static final Checks CHECKS = new Checks("StepTest");

    public static void main(String[] args) {
        numbers();
        sets();
        waits();
        sends();
        receives();
        zeroSlots();
        zeroSlotsAlone();
        elses();
        elsesAndZeroSlots();
        elsesWhoeverHolds();
        holdsWithin();
        holdsNotOutside();
        holdsByTheLatest();
        holdsTogether();
        onlyTheHolder();
        holderCanDoNothing();
        states();
        order();
        orderOfPairs();
        still();
        CHECKS.end();
    }

    private static LassoFinder model(String text) {
        LassoFinder x = new LassoFinder();
        CHECKS.write(x, text);
        CHECKS.throwing("model " + text, Checks.NOTHING, () -> x.model());
        return x;
    }

    private static void holder(LassoFinder x, int due, int... way) {
        Checks.walk(x, way);
        CHECKS.same("holder behind " + way.length + " steps", x.holder(), due);
    }

    private static void numbers() {
        CHECKS.sentence("The first six are BASIC; they are numbered from 0 in the order of the text");
        // 0 a=1, 1 -, 2 (0), 3 b?a, 4 b!1, 5 ~, 6 - of the second process; atomics, breaks and jumps have none.
        LassoFinder x = model("a;#b1;{<a=1>;[-|(0)];:A*[b?a;^A|b!1|~;.]}{-}");
        CHECKS.steps(x, "0 6");
        CHECKS.steps(x, "1 6", 0);
        CHECKS.steps(x, "4 6", 0, 0);
        CHECKS.steps(x, "3 6", 0, 0, 0);
        CHECKS.same("of them there are", x.count(2), 7);
        CHECKS.steps(model("{[(0)|~;-]}{-}"), "1 3");
        CHECKS.steps(model("{-;-;-;-}{-;-}{-}"), "0 4 6");
    }

    private static void sets() {
        CHECKS.sentence("SET, NOTHING and RECEIVE do what their names say");
        LassoFinder x = CHECKS.modelled("a=3;b=5;{a=7;-;b=a;a=0}", 5);
        int[][] due = {{3, 5}, {7, 5}, {7, 5}, {7, 7}, {0, 7}};
        x.walk();
        for (int[] values : due) {
            CHECKS.same("a", x.value(0), values[0]);
            CHECKS.same("b", x.value(1), values[1]);
            x.go(0);
        }
    }

    private static void waits() {
        CHECKS.sentence("WAIT can be done if its expression isn't 0");
        String[] done = {"1", "2", "7", "a", "a=6", "0-1", "3*3"};
        String[] not = {"0", "a-6", "4+4", "2*4", "a<6", "a=5", "a-a"};
        for (String term : done) {
            CHECKS.steps(model("a=6;{(" + term + ")}"), "0");
        }
        for (String term : not) {
            CHECKS.steps(model("a=6;{(" + term + ")}"), "-1");
        }
        LassoFinder x = CHECKS.modelled("a=6;{(a)}", 2);
        Checks.walk(x, 0);
        CHECKS.same("it changes nothing else", x.value(0), 6);
    }

    private static void sends() {
        CHECKS.sentence("SEND, if the channel has a free slot, the message being the expression's value");
        for (int slots = 1; slots <= 3; slots++) {
            LassoFinder x = CHECKS.modelled("#a" + slots + ";{*[a!a+5]}", slots + 1);
            x.walk();
            for (int k = 0; k < slots; k++) {
                CHECKS.same("send " + k + " of " + slots, x.go(0), 0);
                CHECKS.same("messages", x.value(0), k + 1);
                CHECKS.same("message", x.message(0, k), k + 5);
            }
            CHECKS.same("full with " + slots, x.go(0), -1);
        }
        LassoFinder y = model("#a1;b;{a!1;a!2}{a?b}");
        CHECKS.steps(y, "2", 0);
        CHECKS.steps(y, "1", 0, 0);
    }

    private static void receives() {
        CHECKS.sentence("RECEIVE takes the first message and can be done if there is one");
        LassoFinder x = model("#a3;b;{a!5;a!6;a!7}{*[a?b]}");
        CHECKS.steps(x, "0");
        CHECKS.steps(x, "1 3", 0);
        Checks.walk(x, 0, 0, 0);
        int[] due = {5, 6, 7};
        for (int i = 0; i < 3; i++) {
            CHECKS.same("RECEIVE " + i, x.go(0), 3);
            CHECKS.same("message " + i, x.value(1), due[i]);
            CHECKS.same("messages left of " + i, x.value(0), 2 - i);
            CHECKS.same("the first one then", x.message(0, 0), i < 2 ? due[i + 1] : -1);
        }
        CHECKS.same("none is there", x.go(0), -1);
        // Sent and received in turn, so the slots are gone through more than once.
        LassoFinder y = CHECKS.modelled("#a2;b;{a!1;a!2;*[a?b;a!b+2]}", 18);
        Checks.walk(y, 0, 0, 0, 0, 0, 0, 0, 0, 0, 0);
        CHECKS.same("taken", y.value(1), 4);
        CHECKS.same("the first one left", y.message(0, 0), 5);
        CHECKS.same("the second one left", y.message(0, 1), 6);
    }

    private static void zeroSlots() {
        CHECKS.sentence("SEND can be done together with a RECEIVE from it at the point of another process");
        LassoFinder x = CHECKS.modelled("#a0;b;c;{a!c+5}{a?b}", 2);
        CHECKS.steps(x, "0");
        Checks.walk(x, 0);
        CHECKS.same("the variable becomes the value", x.value(1), 5);
        CHECKS.same("no message is in it", x.value(0), 0);
        CHECKS.same("no message of it", x.message(0, 0), -1);
        CHECKS.same("the sender's point", x.point(0), 1);
        CHECKS.same("the receiver's point", x.point(1), 1);
        CHECKS.steps(model("#a0;b;{[-|a!1]}{*[-|a?b]}"), "0 1 2");
        CHECKS.steps(model("#a0;b;{a?b}{-}{a!1}"), "1 2");
        CHECKS.steps(model("#a0;b;{[<a!1>]}{<[-|a?b]>}"), "0 1");
        // The value is that of before.
        LassoFinder y = CHECKS.modelled("#a0;b=3;{*[a!b+1]}{*[a?b]}", 8);
        Checks.walk(y, 0, 0);
        CHECKS.same("b + 1 + 1", y.value(1), 5);
    }

    private static void zeroSlotsAlone() {
        CHECKS.sentence("(Such a RECEIVE can't be done otherwise.)");
        CHECKS.steps(model("#a0;b;{a?b}"), "-1");
        CHECKS.steps(model("#a0;b;{a?b}{a?b}"), "-1");
        CHECKS.steps(model("#a0;{a!1}"), "-1");
        CHECKS.steps(model("#a0;{a!1}{a!1}"), "-1");
        // Not within one process, not another channel, not what isn't at the point.
        CHECKS.steps(model("#a0;b;{[a!1|a?b]}"), "-1");
        CHECKS.steps(model("#a0;b;{a!1;a?b}"), "-1");
        CHECKS.steps(model("#a0;b;{[a!1|a?b]}{[a!1|a?b]}"), "0 2");
        CHECKS.steps(model("#a0;#b0;c;{a!1}{b?c}"), "-1");
        CHECKS.steps(model("#a0;#b1;c;{a!1}{b?c}"), "-1");
        CHECKS.steps(model("#a0;b;{a!1}{(b);a?b}"), "-1");
        CHECKS.steps(model("#a0;b;{a!1}{[-;a?b]}"), "1");
        CHECKS.steps(model("#a0;b;{-;a!1}{[a?b|-]}"), "1 3", 0);
        CHECKS.steps(model("#a0;b;{-;a!1}{[a?b|-]}"), "-1", 0, 1);
        CHECKS.steps(model("#a0;b;{[a?b|-]}{-;a!1}"), "-1", 0, 0);
        // One with slots is never sent and received in one step.
        LassoFinder x = CHECKS.modelled("#a1;b;{a!1}{a?b}", 3);
        CHECKS.steps(x, "0");
        CHECKS.steps(x, "1", 0);
    }

    private static void elses() {
        CHECKS.sentence("ELSE can be done if nothing but ELSE at its process's point can be done");
        CHECKS.steps(model("{[~]}"), "0");
        CHECKS.steps(model("a;{[(a)|~]}"), "1");
        CHECKS.steps(model("a=1;{[(a)|~]}"), "0");
        CHECKS.steps(model("a=1;{[~|(a)]}"), "1");
        CHECKS.steps(model("{[-|~]}"), "0");
        CHECKS.steps(model("a;{[~|a=1]}"), "1");
        CHECKS.steps(model("#a1;b;{[a?b|~]}"), "1");
        CHECKS.steps(model("#a1;{[a!1|~]}"), "0");
        CHECKS.steps(model("#a1;{a!1;[a!1|~]}"), "2", 0);
        CHECKS.steps(model("#a1;b;{a!1;[a?b|~]}"), "1", 0);
        // All at the point, through what is first in it; each ELSE there can be done.
        CHECKS.steps(model("a;{[[(a)|~]|~|[(a)]]}"), "1 2");
        CHECKS.steps(model("a;{[[(a)|~]|~|[-]]}"), "3");
        CHECKS.steps(model("a;{[[(a)|~]|<->]}"), "2");
        CHECKS.steps(model("a;{*[~|*[~]]}"), "0 1");
        // Not what is at other points: of its process, or of another one.
        CHECKS.steps(model("a;{-;^A;[-|:A[(a)|~]]}"), "3", 0);
        CHECKS.steps(model("a;{[(a)|~]}{-}"), "1 2");
        CHECKS.steps(model("{[~]}{[~]}"), "0 1");
        CHECKS.steps(model("{[-|~]}{[~]}"), "0 2");
    }

    private static void elsesAndZeroSlots() {
        CHECKS.sentence("a RECEIVE from a channel of 0 slots never counts as such");
        CHECKS.steps(model("#a0;b;{[a?b|~]}"), "1");
        CHECKS.steps(model("#a0;b;{[a?b|~]}{a!1}"), "1 2");
        CHECKS.steps(model("#a0;b;{a!1}{*[~|a?b]}"), "0 1");
        CHECKS.sentence("a SEND to one does if it could be done together with one");
        CHECKS.steps(model("#a0;b;{[a!1|~]}{a?b}"), "0");
        CHECKS.steps(model("#a0;b;{[a!1|~]}"), "1");
        CHECKS.steps(model("#a0;b;{[a!1|~]}{(b);a?b}"), "1");
        CHECKS.steps(model("#a0;b;{[a!1|~|a?b]}"), "1");
        CHECKS.steps(model("#a0;b;{[a!1|~]}{[a?b|~]}"), "0 3");
    }

    private static void elsesWhoeverHolds() {
        CHECKS.sentence("(whoever holds");
        // Another one holds and can do nothing.
        LassoFinder x = model("a;{<-;(a);->}{[-|~]}{[(a)|~]}");
        CHECKS.steps(x, "3 6", 0);
        CHECKS.same("the first holds", x.holder(), 0);
        // The one that holds has an ELSE.
        LassoFinder y = model("a;{<-;[(a)|~];->}{-}");
        CHECKS.steps(y, "2", 0);
        CHECKS.same("it holds", y.holder(), 0);
        LassoFinder z = model("a=1;{<-;[(a)|~];->}{-}");
        CHECKS.steps(z, "1", 0);
        // A SEND together with a RECEIVE of the one that holds counts, and so does one to another.
        LassoFinder v = model("#a0;b;{<-;a?b;->}{[a!1|~]}");
        CHECKS.steps(v, "3", 0);
        LassoFinder w = model("#a0;b;c;{<-;(c);->}{[a!1|~]}{a?b}");
        CHECKS.steps(w, "3", 0);
    }

    private static void holdsWithin() {
        CHECKS.sentence("and stands at a statement within the same atomic then (a selection or repetition, too)");
        holder(model("{<-;->}{-}"), 0, 0);
        holder(model("{-}{-}{-}{<-;->}"), 3, 3);
        holder(model("{<-;[-|-]>}"), 0, 0);
        holder(model("{<-;*[-]>}"), 0, 0);
        holder(model("{<*[-]>}"), 0, 0);
        holder(model("{<*[-;.];->}"), 0, 0);
        holder(model("{<[-;-]>}"), 0, 0);
        holder(model("{<[-|-];->}"), 0, 1);
        holder(model("{<-;^A;-;:A->}"), 0, 0);
        holder(model("{:A<-;^A>}"), 0, 0);
        holder(model("{<:A-;->;^A}"), 0, 0, 0);
        holder(model("{[-|<-;->]}"), 0, 1);
        holder(model("{*[<-;->]}"), 0, 0);
        holder(model("{[<[-;-|-]>|-]}"), 0, 0);
        // Into an atomic by a jump, and then a step within.
        holder(model("{-;^A;<-;:A-;->}"), 0, 0, 0);
    }

    private static void holdsNotOutside() {
        CHECKS.sentence("A process HOLDS if .. it .. stands at a statement within the same atomic then");
        holder(model("{<-;->}"), -1);
        holder(model("{-;-}"), -1, 0);
        holder(model("{<->}"), -1, 0);
        holder(model("{<->;-}"), -1, 0);
        holder(model("{<-;->;-}"), -1, 0, 0);
        holder(model("{-;<-;->}"), -1, 0);
        holder(model("{<->;<-;->}"), -1, 0);
        holder(model("{<-;->;<-;->}"), -1, 0, 0);
        holder(model("{*[<->]}"), -1, 0);
        holder(model("{*[<-;->]}"), -1, 0, 0);
        holder(model("{*[<-;.>];-}"), -1, 0);
        holder(model("{<-;^A>;-;:A-}"), -1, 0);
        holder(model("{<-;^A>;<-;:A->}"), -1, 0);
        holder(model("{-;^A;<-;:A->}"), -1, 0);
        holder(model("{[-;^B|<-;:B->]}"), -1, 0);
        holder(model("{[<-;->|-]}"), -1, 1);
    }

    private static void holdsByTheLatest() {
        CHECKS.sentence("if it did a basic statement within an atomic in the latest step");
        LassoFinder x = model("a;{<-;(a);->}{-;a=1;-}");
        holder(x, 0, 0);
        holder(x, -1, 0, 0);
        holder(x, -1, 0, 0, 0);
        holder(x, 0, 0, 0, 0, 0);
        // Another one holds then.
        LassoFinder y = model("a;{<-;(a);->}{<-;a=1;->}");
        holder(y, 0, 0);
        holder(y, 1, 0, 0);
        CHECKS.steps(y, "4", 0, 0);
    }

    private static void holdsTogether() {
        CHECKS.sentence("after a SEND and RECEIVE together the one that received, if both would");
        holder(model("#a0;b;{<a!1;->}{<a?b;->}"), 1, 0);
        holder(model("#a0;b;{<a?b;->}{<a!1;->}"), 0, 0);
        holder(model("#a0;b;{<a!1;->}{a?b;-}"), 0, 0);
        holder(model("#a0;b;{a?b;-}{<a!1;->}"), 1, 0);
        holder(model("#a0;b;{a!1;-}{<a?b;->}"), 1, 0);
        holder(model("#a0;b;{<a!1;->}{<a?b>;-}"), 0, 0);
        holder(model("#a0;b;{<a!1>;-}{<a?b;->}"), 1, 0);
        holder(model("#a0;b;{<a!1>;-}{<a?b>;-}"), -1, 0);
        holder(model("#a0;b;{a!1;-}{a?b;-}"), -1, 0);
    }

    private static void onlyTheHolder() {
        CHECKS.sentence("While one that holds has something that it can do .. only this can be done");
        LassoFinder x = model("a;{<a=1;a=2;[-|(a)]>}{-}{-}");
        CHECKS.steps(x, "0 4 5");
        CHECKS.steps(x, "1", 0);
        CHECKS.steps(x, "2 3", 0, 0);
        CHECKS.steps(x, "4 5", 0, 0, 0);
        // A SEND of its own to a channel of 0 slots is something.
        CHECKS.steps(model("#a0;b;{<-;a!1;->}{a?b}{-}"), "1", 0);
        CHECKS.steps(model("#a0;b;{<-;[a!1|-]>}{a?b}{-}"), "1 2", 0);
        CHECKS.steps(model("#a0;b;{<-;a!1;->}{[a?b|-]}{a?b}"), "1 1", 0);
        CHECKS.sentence("(a RECEIVE together with a SEND of another one isn't that)");
        LassoFinder y = model("#a0;b;{<-;a?b;->}{a!1}{-}");
        CHECKS.steps(y, "3 4", 0);
        CHECKS.steps(y, "2", 0, 0);
        CHECKS.same("it received and holds", y.holder(), 0);
        LassoFinder z = model("#a0;b;{<-;[a?b|-]>}{a!1}{-}");
        CHECKS.steps(z, "2", 0);
        LassoFinder v = model("#a0;b;{<-;[a?b|~]>}{a!1}{-}");
        CHECKS.steps(v, "2", 0);
        // A RECEIVE from one with slots is something.
        LassoFinder w = model("#a1;b;{<a!1;a?b;->}{-}");
        CHECKS.steps(w, "1", 0);
    }

    private static void holderCanDoNothing() {
        CHECKS.sentence("If the one that holds can do nothing, others can do theirs, as if none held.");
        LassoFinder x = model("a;{<-;(a);->}{[a=1|-]}{-}");
        CHECKS.steps(x, "3 4 5", 0);
        CHECKS.same("it holds", x.holder(), 0);
        CHECKS.steps(x, "1 5", 0, 0);
        CHECKS.same("it doesn't any more", x.holder(), -1);
        CHECKS.steps(x, "5", 0, 1);
        LassoFinder y = model("#a1;b;{<a!1;a!2;->}{a?b}{-}");
        CHECKS.steps(y, "3 4", 0);
        LassoFinder z = model("#a0;b;{<-;a!1;->}{-;a?b}");
        CHECKS.steps(z, "3", 0);
        CHECKS.steps(z, "1", 0, 0);
    }

    private static void states() {
        CHECKS.sentence("A STATE is: .. where the processes stand, and which holds");
        CHECKS.modelled("a;{*[a=1|a=2]}", 3);
        CHECKS.modelled("{[-;-|-;-]}", 4);
        CHECKS.modelled("{-;-}{-;-}", 9);
        // The order of messages counts; which slot they are in doesn't, nor what was in it.
        CHECKS.modelled("#a2;{[a!1;a!2|a!2;a!1]}", 5);
        CHECKS.modelled("#a2;{[a!1;a!1|a!1;a!1]}", 4);
        CHECKS.modelled("#a3;b=1;{*[a!1;a!1;a!1;a?b;a?b;a?b]}", 6);
        CHECKS.modelled("#a2;b;{*[a!5;a?b;b=0]}", 3);
        CHECKS.modelled("#a1;b;{[a!0|-]}", 3);
        CHECKS.modelled("#a1;#b1;{[a!1|b!1]}", 3);
        // The same but for who holds.
        CHECKS.modelled("{<-;:B->;[-;^B]}", 4);
        CHECKS.modelled("{[-;^B|<-;:B->]}", 4);
        CHECKS.modelled("{[-;^B|-;:B-]}", 3);
    }

    private static void order() {
        CHECKS.sentence("Its STEPS, from 0: by the number of the basic statement");
        CHECKS.steps(model("{-}{-}{-}{-}"), "0 1 2 3");
        CHECKS.steps(model("{-;-}{-;-}"), "1 2", 0);
        CHECKS.steps(model("{-;-}{-;-}"), "0 3", 1);
        CHECKS.steps(model("a;{*[a=1|a=2|a=3]}{[-|-]}"), "0 1 2 3 4");
        // Two that come to the same state are two.
        LassoFinder x = CHECKS.modelled("{*[-|-]}", 1);
        CHECKS.steps(x, "0 1");
        CHECKS.same("both count", x.count(1), 2);
    }

    private static void orderOfPairs() {
        CHECKS.sentence("(of the SEND, where two are done), then of the RECEIVE");
        LassoFinder x = model("#a0;b;c;d;{a?b}{[-|a!1]}{a?c}{[a?d|a!2]}");
        // 1 alone; 2 with 0, 3 and 4; 5 with 0 and 3
        CHECKS.steps(x, "1 2 2 2 5 5");
        int[][] due = {{0, 0, 0}, {1, 0, 0}, {0, 1, 0}, {0, 0, 1}, {2, 0, 0}, {0, 2, 0}};
        for (int i = 0; i < 6; i++) {
            Checks.walk(x, i);
            for (int name = 1; name <= 3; name++) {
                CHECKS.same("value " + name + " behind step " + i, x.value(name), due[i][name - 1]);
            }
        }
        CHECKS.lasso(x, "G!{c=2}", "0 1 / 0");
        CHECKS.same("its SEND", x.lasso(1, 1), 5);
        CHECKS.same("its RECEIVE", x.lasso(1, 2), 3);
    }

    private static void still() {
        CHECKS.sentence("A state without steps has one, STILL, that changes nothing (the one that holds neither).");
        LassoFinder x = CHECKS.modelled("a=3;#b1;{b!7;(0)}", 2);
        Checks.walk(x, 0);
        for (int i = 0; i < 3; i++) {
            CHECKS.same("steps", x.steps(), 1);
            CHECKS.same("value", x.value(0), 3);
            CHECKS.same("message", x.message(1, 0), 7);
            CHECKS.same("point", x.point(0), 1);
            CHECKS.same("STILL", x.go(0), -1);
        }
        CHECKS.same("it counts as a step", x.count(1), 2);
        LassoFinder y = CHECKS.modelled("{<-;(0)>}{-}", 5);
        CHECKS.steps(y, "2", 0);
        LassoFinder z = CHECKS.modelled("{<-;(0)>}", 2);
        Checks.walk(z, 0, 0, 0);
        CHECKS.same("who holds holds on", z.holder(), 0);
        CHECKS.steps(model("{-}{-}"), "-1", 0, 0);
        CHECKS.steps(model("a;{(a=1);a=2}{(a=2);a=1}"), "-1");
        // None where there is a step.
        CHECKS.steps(model("{(0)}{-}"), "1");
    }
}
