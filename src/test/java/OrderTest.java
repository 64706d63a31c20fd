import java.lang.reflect.InvocationTargetException;
import java.lang.reflect.Method;
import java.util.Arrays;
import java.util.HashMap;
import java.util.Map;
import java.util.TreeMap;

/**
 * "Every promise holds at each of these calls, in whatever order they come": makes 512 calls on one object, many of
 * which throw, and compares each answer with that of OracleFinder.
 */
final class OrderTest {
    private static final Checks CHECKS = new Checks("OrderTest");
    private static final int PROMISED_CALLS = 512;
    private static final int[] ODD = {-1, Integer.MIN_VALUE, Integer.MAX_VALUE, -8, 8, 61, 240};
    private static final String TOO_BIG = "a;b;c;{*[a=a+1|b=b+1|c=c+1]}";
    private static final String[] LOOKS = {"place", "stem", "cycle", "steps", "holder"};
    private static final Map<String, Method> FACE = methodsOf(LassoFinder.class);
    private static final Map<String, Method> SECOND = methodsOf(OracleFinder.class);
    /** How often each call gave an answer, or threw what it can throw. */
    private static final Map<String, Integer> MET = new TreeMap<>();

    private final Dice dice;
    private final LassoFinder finder = new LassoFinder();
    private final OracleFinder second = new OracleFinder();
    private final String round;
    private int made;
    /** What the next formula is about: the model that was written latest, or none that was. */
    private String model;

    private OrderTest(Dice dice, String round) {
        this.dice = dice;
        this.round = round;
        model = dice.model();
    }

    public static void main(String[] args) {
        int rounds = args.length > 0 ? Integer.parseInt(args[0]) : 120;
        long seed = args.length > 1 ? Long.parseLong(args[1]) : 11;
        Dice dice = new Dice(seed);
        for (int i = 0; i < rounds; i++) {
            new OrderTest(dice, "round " + i).play();
        }
        System.out.println(MET);
        for (String kind : new String[] {"model", "model IllegalArgumentException",
            "model UnsupportedOperationException", "formula", "formula IllegalStateException",
            "formula IllegalArgumentException", "verify", "verify IllegalStateException", "lasso",
            "lasso IndexOutOfBoundsException", "walk", "walk IllegalStateException", "go", "go IllegalStateException",
            "go IndexOutOfBoundsException", "go UnsupportedOperationException", "truth",
            "truth IllegalStateException", "truth IllegalArgumentException"}) {
            CHECKS.same("met: " + kind, MET.getOrDefault(kind, 0) >= 10, true);
        }
        CHECKS.end();
    }

    private static Map<String, Method> methodsOf(Class<?> type) {
        Map<String, Method> all = new HashMap<>();
        for (Method method : type.getDeclaredMethods()) {
            all.put(method.getName(), method);
        }
        return all;
    }

    private void play() {
        for (int i = 0; i < 5; i++) {
            callAny();
        }
        while (made < PROMISED_CALLS) {
            int kind = dice.upTo(100);
            if (kind < (second.count(0) == 0 ? 20 : 2)) {
                readModel();
            } else if (kind < 26) {
                readFormula();
            } else if (kind < 29) {
                writeOdd();
            } else if (kind < 30) {
                goFar();
            } else if (kind < 31) {
                call(dice.chance(50) ? "model" : "formula");
            } else if (kind < 35) {
                call("walk");
            } else if (kind < 45) {
                call("verify");
                lookAtLasso();
            } else if (kind < 70) {
                go();
            } else {
                callAny();
            }
        }
    }

    private void readModel() {
        model = dice.model();
        for (int i = 0; i < 4 && !fits(model); i++) {
            model = dice.model();
        }
        write(dice.chance(15) ? dice.spoiled(model) : dice.chance(5) ? TOO_BIG : model);
        call("model");
    }

    private static boolean fits(String text) {
        try {
            Oracle oracle = new Oracle();
            oracle.readModel(text);
            oracle.explore();
            return true;
        } catch (Oracle.Wrong | Oracle.TooMany e) {
            return false;
        }
    }

    private void readFormula() {
        String text = dice.formula(dice.upTo(4), 0, model);
        write(dice.chance(10) ? dice.spoiled(text) : text);
        call("formula");
    }

    /** In words of one to eight characters, with bytes that are 0 anywhere. */
    private void write(String text) {
        int at = 0;
        while (at < text.length()) {
            long word = 0;
            for (int i = 0; i < 8; i++) {
                boolean more = at < text.length() && dice.chance(90);
                word = word << 8 | (more ? text.charAt(at) : 0);
                at += more ? 1 : 0;
            }
            call("write", word);
        }
    }

    private void writeOdd() {
        if (dice.chance(20)) {
            write("*".repeat(dice.upTo(260)));
        } else {
            int[] signs = {0, 32, 33, 126, 127, 128, 255, 'a', '{'};
            long word = 0;
            for (int i = 0; i < 8; i++) {
                word = word << 8 | signs[dice.chance(80) ? 0 : dice.upTo(signs.length)];
            }
            call("write", word);
        }
    }

    private void go() {
        call("go", dice.chance(90) ? dice.upTo(Math.max(1, second.steps())) : odd(second.steps()));
    }

    private void goFar() {
        call("walk");
        for (int i = 0; i < 63; i++) {
            go();
        }
    }

    private int odd(int most) {
        return dice.chance(30) ? ODD[dice.upTo(ODD.length)] : dice.upTo(Math.max(0, most) + 2) - 1;
    }

    private void lookAtLasso() {
        boolean there = second.cycle() > 0;
        for (int i = 0; i < (there ? 4 : 1); i++) {
            call("lasso", odd(second.stem() + second.cycle()), there && dice.chance(70) ? dice.upTo(3) : odd(3));
        }
    }

    private void callAny() {
        switch (dice.upTo(8)) {
            case 0:
                lookAtLasso();
                break;
            case 1:
                call("value", odd(8));
                break;
            case 2:
                call("message", odd(8), odd(3));
                break;
            case 3:
                call("point", odd(4));
                break;
            case 4:
                call("truth", dice.chance(50) ? second.firstTimeHere() : odd(20));
                break;
            case 5:
                call("count", odd(4));
                break;
            default:
                call(LOOKS[dice.upTo(LOOKS.length)]);
                break;
        }
    }

    /** Makes the call on both objects, unless what it answers is free or the second one can't say. */
    private void call(String name, Object... arguments) {
        if (made >= PROMISED_CALLS) {
            return;
        }
        String due = answer(SECOND.get(name), second, arguments);
        if (due.equals("TooMany")) {
            return;
        }
        made++;
        MET.merge(name + (due.endsWith("Exception") ? " " + due : ""), 1, Integer::sum);
        String got = answer(FACE.get(name), finder, arguments);
        CHECKS.same(round + ", call " + made + ": " + name + Arrays.toString(arguments), got, due);
        if (!got.equals(due)) {
            // What comes behind a wrong answer says nothing new.
            made = PROMISED_CALLS;
        }
    }

    private static String answer(Method method, Object on, Object[] arguments) {
        try {
            return String.valueOf(method.invoke(on, arguments));
        } catch (InvocationTargetException e) {
            return e.getCause().getClass().getSimpleName();
        } catch (IllegalAccessException e) {
            throw new IllegalStateException(e);
        }
    }
}
