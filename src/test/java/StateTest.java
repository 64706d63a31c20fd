/** Promises 13 to 16. */
final class StateTest {
    private static final Checks CHECKS = new Checks("StateTest");
    private static final int[] FAR_OFF = {-1, 8, 9, Integer.MAX_VALUE, Integer.MIN_VALUE};

    public static void main(String[] args) {
        values();
        reckoning();
        messages();
        points();
        holders();
        withoutWalk();
        CHECKS.end();
    }

    private static void values() {
        LassoFinder x = CHECKS.modelled("c=5;h;#b2;{h=7;b!c;b!h}", 4);
        x.walk();
        int[][] due = {{-1, 0, 5, -1, -1, -1, -1, 0}, {-1, 0, 5, -1, -1, -1, -1, 7}, {-1, 1, 5, -1, -1, -1, -1, 7}, {-1,
                2, 5, -1, -1, -1, -1, 7}};
        for (int i = 0; i < 4; i++) {
            for (int name = 0; name < 8; name++) {
                CHECKS.same("value " + name + " behind " + i, x.value(name), due[i][name]);
            }
            x.go(0);
        }
        for (int name : FAR_OFF) {
            CHECKS.same("value " + name, x.value(name), -1);
            CHECKS.same("message of " + name, x.message(name, 0), -1);
        }
    }

    private static void reckoning() {
        String[] terms = {"3+6", "2-5", "3*5", "1+2*3", "7-2-3", "2<3", "3<2", "2=2", "2=3", "(1+2)*3", "1+1=2",
                "1<1+1", "b", "b*b", "c+1", "2*(b-7)"};
        int[] due = {1, 5, 7, 7, 2, 1, 0, 1, 0, 1, 1, 1, 6, 4, 1, 6};
        for (int i = 0; i < terms.length; i++) {
            LassoFinder x = CHECKS.modelled("a=7;b=6;#c1;{a=" + terms[i] + "}", 2);
            Checks.walk(x, 0);
            CHECKS.same(terms[i], x.value(0), due[i]);
        }
    }

    private static void messages() {
        LassoFinder x = CHECKS.modelled("#d3;#a1;b;{d!7;d!0;d!5;d?b;d!1;a!2}", 7);
        Checks.walk(x, 0, 0, 0);
        int[] first = {7, 0, 5, -1};
        for (int k = 0; k < 4; k++) {
            CHECKS.same("message " + k, x.message(3, k), first[k]);
            CHECKS.same("message of an empty one", x.message(0, k), -1);
            CHECKS.same("message of a variable", x.message(1, k), -1);
            CHECKS.same("message of no name", x.message(2, k), -1);
        }
        x.go(0);
        int[] second = {0, 5, -1, -1};
        for (int k = 0; k < 4; k++) {
            CHECKS.same("message " + k + " behind a RECEIVE", x.message(3, k), second[k]);
        }
        CHECKS.same("what was received", x.value(1), 7);
        x.go(0);
        x.go(0);
        CHECKS.same("the last one", x.message(3, 2), 1);
        CHECKS.same("the other channel's", x.message(0, 0), 2);
        for (int k : FAR_OFF) {
            CHECKS.same("message " + k, x.message(3, k), -1);
        }
    }

    private static void points() {
        LassoFinder x = CHECKS.modelled("a;{a=1;[a=2|*[a=3;<a=4;a=5>;.]];a=6}{-}", 14);
        // 0 a=1, 1 the selection, 2 a=2, 3 the repetition, 4 a=3, 5 a=4, 6 a=5, 7 a=6, 8 END
        x.walk();
        CHECKS.same("at first", x.point(0), 0);
        CHECKS.same("the other one", x.point(1), 0);
        x.go(0);
        CHECKS.same("the selection", x.point(0), 1);
        x.go(1);
        CHECKS.same("into the atomic", x.point(0), 5);
        x.go(0);
        CHECKS.same("within the atomic", x.point(0), 6);
        x.go(0);
        CHECKS.same("behind the break", x.point(0), 7);
        x.go(0);
        CHECKS.same("END", x.point(0), 8);
        CHECKS.same("the other one yet", x.point(1), 0);
        x.go(0);
        CHECKS.same("its END", x.point(1), 1);
        int[] none = {-1, 2, 3, 4, Integer.MAX_VALUE, Integer.MIN_VALUE};
        for (int process : none) {
            CHECKS.same("point of " + process, x.point(process), -1);
        }
    }

    private static void holders() {
        LassoFinder x = CHECKS.modelled("{-}{-}{-}{<-;->}", 24);
        x.walk();
        CHECKS.same("at first", x.holder(), -1);
        x.go(3);
        CHECKS.same("the fourth", x.holder(), 3);
        x.go(0);
        CHECKS.same("none", x.holder(), -1);
    }

    private static void withoutWalk() {
        LassoFinder x = CHECKS.modelled("a=3;#b1;{<-;->}", 3);
        CHECKS.same("value", x.value(0), -1);
        CHECKS.same("amount", x.value(1), -1);
        CHECKS.same("message", x.message(1, 0), -1);
        CHECKS.same("point", x.point(0), -1);
        CHECKS.same("holder", x.holder(), -1);
    }
}
