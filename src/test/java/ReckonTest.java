/** "Terms": what expressions are, with the wrap-around at 8 and the order in which they are reckoned. */
final class ReckonTest {
    private static final Checks CHECKS = new Checks("ReckonTest");

    public static void main(String[] args) {
        moduloEight();
        everyPair();
        fromTheLeft();
        strengths();
        comparisons();
        channelNames();
        everyName();
        everywhere();
        CHECKS.end();
    }

    /** The number that an expression is, of a = 7, b = 6, the channel c with two messages and the empty one d. */
    private static void is(String term, int due) {
        LassoFinder x = CHECKS.modelled("a=7;b=6;#c3;#d0;{c!1;c!1;a=" + term + "}", 4);
        Checks.walk(x, 0, 0, 0);
        CHECKS.same(term, x.value(0), due);
    }

    private static void moduloEight() {
        CHECKS.sentence("All numbers are 0 .. 7, sums, differences and products modulo 8");
        is("0", 0);
        is("7", 7);
        is("3+4", 7);
        is("4+4", 0);
        is("7+1", 0);
        is("7+7", 6);
        is("a+b", 5);
        is("1-1", 0);
        is("0-1", 7);
        is("0-7", 1);
        is("b-a", 7);
        is("7*1", 7);
        is("2*4", 0);
        is("3*3", 1);
        is("7*7", 1);
        is("a*b", 2);
        // What is more than 7 on the way counts modulo 8, too.
        is("4+4<1", 1);
        is("7+1=0", 1);
        is("0-1<7", 0);
        is("0-1=7", 1);
        is("6<0-1", 1);
        is("2*4=0", 1);
        is("2*4<1", 1);
    }

    private static void everyPair() {
        CHECKS.sentence("sums, differences and products modulo 8 .. a comparison is 1 or 0");
        for (int left = 0; left < 8; left++) {
            for (int right = 0; right < 8; right++) {
                LassoFinder x = new LassoFinder();
                CHECKS.write(x, "a=" + left + ";b=" + right + ";c;d;e;f;{c=a+b;d=a-b;e=a*b;f=a<b;a=a=b}");
                x.model();
                Checks.walk(x, 0, 0, 0, 0, 0);
                String pair = left + " and " + right;
                CHECKS.same("sum of " + pair, x.value(2), (left + right) % 8);
                CHECKS.same("difference of " + pair, x.value(3), (left - right + 8) % 8);
                CHECKS.same("product of " + pair, x.value(4), left * right % 8);
                CHECKS.same("less of " + pair, x.value(5), left < right ? 1 : 0);
                CHECKS.same("equal of " + pair, x.value(0), left == right ? 1 : 0);
            }
        }
    }

    private static void fromTheLeft() {
        CHECKS.sentence("from the left");
        is("7-2-3", 2);
        is("1-2+3", 2);
        is("5-1+1", 5);
        is("1-1-1-1", 6);
        is("7-(2-3)", 0);
        is("2*3*3", 2);
        is("6-2*2-1", 1);
    }

    private static void strengths() {
        CHECKS.sentence("SUM [ ( = | < ) SUM ]. SUM = PRODUCT { ( + | - ) PRODUCT }. PRODUCT = PART { * PART }.");
        is("1+2*3", 7);
        is("2*3+1", 7);
        is("(1+2)*3", 1);
        is("3*(1+2)", 1);
        is("7-2*3", 1);
        is("1+1=2", 1);
        is("2=1+1", 1);
        is("1<1+1", 1);
        is("1+1<1", 0);
        is("3*3=1", 1);
        is("1+(1=2)", 1);
        is("(1<2)+(1<2)", 2);
        is("2*(3=3)", 2);
        is("((((1))))", 1);
        is("1+1+1+1+1+1+1+1+1+1+1+1", 4);
        is("a-((b-1)*(2+3))", 6);
        is("3=1+2", 1);
        is("3=5-2", 1);
        is("0<1+2", 1);
        is("7<1+2", 0);
        is("2=2*1", 1);
        is("(1=(1<(1=(0<1))))", 0);
        is("1=(0<(1=1))", 1);
        // As many signs as there can be wait for what is in parentheses.
        is("1=1+1*(1=1+1*(1=1+1*(1=1+(1))))", 1);
        is("2=1+1*(1=1+1*(1=1+1*(1=1+(0))))", 1);
    }

    private static void comparisons() {
        CHECKS.sentence("a comparison is 1 or 0");
        is("2=2", 1);
        is("2=3", 0);
        is("2<3", 1);
        is("3<3", 0);
        is("4<3", 0);
        is("0<7", 1);
        is("7<0", 0);
        is("a=b", 0);
        is("b<a", 1);
        is("(2<3)=1", 1);
        is("(3<2)=0", 1);
    }

    private static void channelNames() {
        CHECKS.sentence("a channel's name stands for how many messages it has");
        is("c", 2);
        is("d", 0);
        is("c*c+1", 5);
        is("d<c", 1);
        LassoFinder x = CHECKS.modelled("#a3;b;{a!7;a!a;a!a;a?b;b=a}", 6);
        Checks.walk(x, 0, 0, 0);
        CHECKS.same("one message is there when the second is sent", x.message(0, 1), 1);
        CHECKS.same("two messages are there when the third is sent", x.message(0, 2), 2);
        x.go(0);
        x.go(0);
        CHECKS.same("behind a RECEIVE", x.value(1), 2);
    }

    private static void everyName() {
        CHECKS.sentence("A name is a letter a .. h");
        for (char name = 'a'; name <= 'h'; name++) {
            char other = name == 'a' ? 'b' : 'a';
            LassoFinder x = CHECKS.modelled(other + ";" + name + "=5;{" + other + "=1+" + name + "*" + name + "}", 2);
            Checks.walk(x, 0);
            CHECKS.same("1 + 5 * 5 with " + name, x.value(other - 'a'), 2);
            CHECKS.lasso(x, "{" + name + "=5}", "holds");
            LassoFinder y = CHECKS.modelled(other + ";#" + name + "3;{" + name + "!7;" + name + "!6;" + other + "=1+"
                    + name + "}", 4);
            Checks.walk(y, 0, 0, 0);
            CHECKS.same("1 + 2 messages in " + name, y.value(other - 'a'), 3);
            CHECKS.lasso(y, "F{" + name + "=2}", "holds");
        }
    }

    private static void everywhere() {
        CHECKS.sentence("NAME = EXPRESSION .. ( EXPRESSION ) .. NAME ! EXPRESSION .. { EXPRESSION }");
        LassoFinder x = CHECKS.modelled("a=7;#b1;{a=a+1;(a+1-1=0);b!0-1}", 4);
        Checks.walk(x, 0, 0, 0);
        CHECKS.same("the value that is set", x.value(0), 0);
        CHECKS.same("the message", x.message(1, 0), 7);
        CHECKS.lasso(x, "{a+1=0}", "holds");
        CHECKS.lasso(x, "{a-7-1}", "holds");
        CHECKS.lasso(x, "{a+1}", "0 0 0 / 0");
        CHECKS.lasso(x, "{b}", "0 0 0 / 0");
        CHECKS.lasso(x, "F{b=1}", "holds");
    }
}
