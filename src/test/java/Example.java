/** The example of README.md: two processes that mustn't be at their statements C together. */
final class Example {
    public static void main(String[] args) {
        LassoFinder finder = new LassoFinder();

        // Each one waits until the other's flag is down, and then puts up its own one.
        write(finder, "a;b;{*[(b=0);a=1;:C-;a=0]}{*[(a=0);b=1;:C-;b=0]}");
        System.out.println(finder.model());                // 16
        write(finder, "G!(@0C&@1C)");
        System.out.println(finder.formula());              // 1
        System.out.println(finder.verify());               // false
        System.out.println(finder.stem());                 // 0
        System.out.println(finder.cycle());                // 8
        System.out.println(steps(finder, 1));              // 0 4 1 5 2 3 6 7
        System.out.println(steps(finder, 0));              // 0 1 0 1 0 0 0 0

        // The same run by hand: behind four steps, both flags are up and both processes are at C.
        finder.walk();
        for (int i = 0; i < 4; i++) {
            finder.go(finder.lasso(i, 0));
        }
        System.out.println(finder.value(0));               // 1
        System.out.println(finder.value(1));               // 1
        System.out.println(finder.point(0));               // 3
        System.out.println(finder.point(1));               // 3
        System.out.println(finder.steps());                // 2
        for (int i = 4; i < 8; i++) {
            finder.go(finder.lasso(i, 0));
        }
        System.out.println(finder.truth(finder.stem()));   // false

        // A formula that is wrong: there is no process 2.
        write(finder, "G!(@0C&@2C)");
        try {
            finder.formula();
        } catch (IllegalArgumentException e) {
            System.out.println(finder.place());            // 8
        }

        // Nothing comes between the wait and the set if they are an atomic.
        write(finder, "a;b;{*[<(b=0);a=1>;:C-;a=0]}{*[<(a=0);b=1>;:C-;b=0]}");
        System.out.println(finder.model());                // 7
        write(finder, "G!(@0C&@1C)");
        System.out.println(finder.formula());              // 1
        System.out.println(finder.verify());               // true
        System.out.println(finder.stem());                 // -1
    }

    /** Eight characters for each call, the first one in the highest byte. */
    private static void write(LassoFinder finder, String text) {
        for (int i = 0; i < text.length(); i += 8) {
            long word = 0;
            for (int k = i; k < text.length() && k < i + 8; k++) {
                word = word << 8 | text.charAt(k);
            }
            finder.write(word);
        }
    }

    /** One number of each step of the lasso. */
    private static String steps(LassoFinder finder, int what) {
        StringBuilder all = new StringBuilder();
        for (int i = 0; i < finder.stem() + finder.cycle(); i++) {
            all.append(i == 0 ? "" : " ").append(finder.lasso(i, what));
        }
        return all.toString();
    }
}
