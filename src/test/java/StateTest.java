/** Promises 13 to 16. */
final class StateTest {
    private static final Checks CHECKS = new Checks("StateTest");

    public static void main(String[] args) {
        values();
        amounts();
        noSuchName();
        messages();
        noSuchMessage();
        points();
        noSuchProcess();
        holders();
        withoutWalk();
        CHECKS.end();
    }

    private static void values() {
        CHECKS.sentence("the variable with a name (0 for a, .. 7 for h)");
        LassoFinder x = CHECKS.modelled("a=1;h=2;c=5;f;{h=7;a=0;f=4}", 4);
        int[][] due = {{1, -1, 5, -1, -1, 0, -1, 2}, {1, -1, 5, -1, -1, 0, -1, 7}, {0, -1, 5, -1, -1, 0, -1, 7},
            {0, -1, 5, -1, -1, 4, -1, 7}};
        x.walk();
        for (int i = 0; i < 4; i++) {
            for (int name = 0; name < 8; name++) {
                CHECKS.same("value " + name + " behind " + i, x.value(name), due[i][name]);
            }
            x.go(0);
        }
        LassoFinder y = CHECKS.modelled("a=7;b=6;c=5;d=4;e=3;f=2;#g1;#h0;{-}", 2);
        y.walk();
        for (int name = 0; name < 8; name++) {
            CHECKS.same("value " + name + " of eight", y.value(name), name < 6 ? 7 - name : 0);
        }
        LassoFinder z = CHECKS.modelled("h=7;g=6;f=5;e=4;d=3;c=2;{c=d}", 2);
        Checks.walk(z, 0);
        int[] then = {-1, -1, 3, 3, 4, 5, 6, 7};
        for (int name = 0; name < 8; name++) {
            CHECKS.same("value " + name + " declared from the last on", z.value(name), then[name]);
        }
    }

    private static void amounts() {
        CHECKS.sentence("or how many messages the channel has");
        LassoFinder x = CHECKS.modelled("#a3;#h1;b;{a!0;a!0;h!7;a!0;a?b;h?b}", 7);
        int[][] due = {{0, 0}, {1, 0}, {2, 0}, {2, 1}, {3, 1}, {2, 1}, {2, 0}};
        x.walk();
        for (int[] both : due) {
            CHECKS.same("messages in a", x.value(0), both[0]);
            CHECKS.same("messages in h", x.value(7), both[1]);
            x.go(0);
        }
        LassoFinder y = CHECKS.modelled("#a0;b;{a!1}{a?b}", 2);
        y.walk();
        CHECKS.same("in one of 0 slots", y.value(0), 0);
        y.go(0);
        CHECKS.same("in one of 0 slots then", y.value(0), 0);
    }

    private static void noSuchName() {
        CHECKS.sentence("-1 if there is none, or no walk");
        LassoFinder x = CHECKS.modelled("a=1;h=2;{-}", 2);
        x.walk();
        CHECKS.same("the first name", x.value(0), 1);
        CHECKS.same("the last name", x.value(7), 2);
        for (int name : new int[] {-1, 8, 1, 6, 9, 31, 32, 64, Integer.MAX_VALUE, Integer.MIN_VALUE}) {
            CHECKS.same("value " + name, x.value(name), -1);
        }
    }

    private static void messages() {
        CHECKS.sentence("Message k (0 the first) of the channel with a name");
        LassoFinder x = CHECKS.modelled("#d3;#a1;b;{d!7;d!0;d!5;d?b;d!1;a!2}", 7);
        x.walk();
        int[][] due = {{-1, -1, -1}, {7, -1, -1}, {7, 0, -1}, {7, 0, 5}, {0, 5, -1}, {0, 5, 1}, {0, 5, 1}};
        for (int i = 0; i < 7; i++) {
            for (int k = 0; k < 3; k++) {
                CHECKS.same("message " + k + " behind " + i, x.message(3, k), due[i][k]);
            }
            CHECKS.same("of the other channel behind " + i, x.message(0, 0), i < 6 ? -1 : 2);
            x.go(0);
        }
        CHECKS.same("what was received", x.value(1), 7);
    }

    private static void noSuchMessage() {
        CHECKS.sentence("-1 if there is none.");
        LassoFinder x = CHECKS.modelled("#a3;#h3;b=1;{a!7;h!6;h!5;h!4}", 5);
        Checks.walk(x, 0, 0, 0, 0);
        CHECKS.same("the first of one", x.message(0, 0), 7);
        CHECKS.same("the last of three", x.message(7, 2), 4);
        for (int k : new int[] {-1, 1, 2, 3, Integer.MAX_VALUE, Integer.MIN_VALUE}) {
            CHECKS.same("message " + k + " of one", x.message(0, k), -1);
        }
        for (int k : new int[] {-1, 3, 4, 8, Integer.MAX_VALUE, Integer.MIN_VALUE}) {
            CHECKS.same("message " + k + " of three", x.message(7, k), -1);
        }
        for (int name : new int[] {-1, 1, 2, 6, 8, Integer.MAX_VALUE, Integer.MIN_VALUE}) {
            CHECKS.same("message of " + name, x.message(name, 0), -1);
            CHECKS.same("message -1 of " + name, x.message(name, -1), -1);
        }
        LassoFinder y = CHECKS.modelled("#a0;b;{a!1}{a?b}", 2);
        y.walk();
        CHECKS.same("of 0 slots", y.message(0, 0), -1);
        y.go(0);
        CHECKS.same("of 0 slots then", y.message(0, 0), -1);
    }

    private static void points() {
        CHECKS.sentence("(that of END is the number of its other points)");
        LassoFinder x = CHECKS.modelled("a;{a=1;[a=2|*[a=3;<a=4;a=5>;.]];a=6}{-}", 14);
        // 0 a=1, 1 the selection, 2 a=2, 3 the repetition, 4 a=3, 5 a=4, 6 a=5, 7 a=6, 8 END
        x.walk();
        int[] way = {0, 1, 0, 0, 0};
        int[] due = {1, 5, 6, 7, 8};
        CHECKS.same("at first", x.point(0), 0);
        for (int i = 0; i < 5; i++) {
            x.go(way[i]);
            CHECKS.same("behind step " + i, x.point(0), due[i]);
            CHECKS.same("the other one", x.point(1), 0);
        }
        x.go(0);
        CHECKS.same("the other one's END", x.point(1), 1);
        LassoFinder y = CHECKS.modelled("{-" + ";-".repeat(29) + "}", 31);
        Checks.walk(y, new int[30]);
        CHECKS.same("END behind thirty", y.point(0), 30);
    }

    private static void noSuchProcess() {
        CHECKS.sentence("-1 if there is none, or no walk");
        LassoFinder x = CHECKS.modelled("{-}{-;-}", 6);
        x.walk();
        CHECKS.same("the last one", x.point(1), 0);
        for (int process : new int[] {-1, 2, 3, 4, 5, Integer.MAX_VALUE, Integer.MIN_VALUE}) {
            CHECKS.same("point of " + process, x.point(process), -1);
        }
        LassoFinder y = CHECKS.modelled("{-}{-}{-}{-}", 16);
        Checks.walk(y, 3);
        CHECKS.same("the fourth", y.point(3), 1);
        CHECKS.same("a fifth", y.point(4), -1);
    }

    private static void holders() {
        CHECKS.sentence("The process that holds in the walk's state; -1 if none does");
        for (int holding = 0; holding < 4; holding++) {
            StringBuilder text = new StringBuilder();
            for (int p = 0; p < 4; p++) {
                text.append(p == holding ? "{<-;->}" : "{-}");
            }
            LassoFinder x = CHECKS.modelled(text.toString(), 24);
            x.walk();
            CHECKS.same("at first", x.holder(), -1);
            x.go(holding);
            CHECKS.same("within", x.holder(), holding);
            x.go(0);
            CHECKS.same("behind", x.holder(), -1);
        }
    }

    private static void withoutWalk() {
        CHECKS.sentence("or no walk .. or without a walk");
        LassoFinder x = new LassoFinder();
        nothing(x, "a new object");
        CHECKS.write(x, "a=3;#b1;{<b!1;->}");
        nothing(x, "only written");
        x.model();
        nothing(x, "a model alone");
        CHECKS.formula(x, "{1}", 0);
        x.verify();
        nothing(x, "a formula");
        Checks.walk(x, 0);
        CHECKS.same("value on the walk", x.value(0), 3);
        CHECKS.same("message on the walk", x.message(1, 0), 1);
        CHECKS.same("point on the walk", x.point(0), 1);
        CHECKS.same("holder on the walk", x.holder(), 0);
        CHECKS.write(x, "a=3;#b1;{<b!1;->}");
        x.model();
        nothing(x, "another model");
    }

    private static void nothing(LassoFinder x, String when) {
        CHECKS.same("value, " + when, x.value(0), -1);
        CHECKS.same("amount, " + when, x.value(1), -1);
        CHECKS.same("message, " + when, x.message(1, 0), -1);
        CHECKS.same("point, " + when, x.point(0), -1);
        CHECKS.same("holder, " + when, x.holder(), -1);
    }
}
