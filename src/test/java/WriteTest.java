/** Promise 2. */
final class WriteTest {
    private static final Checks CHECKS = new Checks("WriteTest");

    public static void main(String[] args) {
        orderOfBytes();
        wrongBytes();
        limit();
        emptyAgain();
        CHECKS.end();
    }

    private static void orderOfBytes() {
        LassoFinder x = new LassoFinder();
        CHECKS.same("word of eight", x.write(0x613B7B2D3B2D3B2DL), true);
        CHECKS.same("word of one", x.write(0x7DL), true);
        CHECKS.same("the model a;{-;-;-}", Checks.statesOf(x), 4);
        CHECKS.same("zeros between", x.write(0x7B002D0000003B00L), true);
        CHECKS.same("nothing to write", x.write(0L), true);
        CHECKS.same("zeros behind", x.write(0x2D7D000000000000L), true);
        CHECKS.same("the model {-;-}", Checks.statesOf(x), 3);
    }

    private static void wrongBytes() {
        long[] wrong = {1, 10, 32, 127, 128, 200, 255};
        for (long w : wrong) {
            for (int shift = 0; shift < 64; shift += 8) {
                LassoFinder x = new LassoFinder();
                CHECKS.same("byte " + w, x.write(w << shift), false);
                CHECKS.same("byte " + w + " among others", x.write(0x2D2D2D2D2D2D2D2DL & ~(255L << shift) | w << shift),
                        false);
                CHECKS.write(x, "{-}");
                CHECKS.same("states after a wrong word", Checks.statesOf(x), 2);
            }
        }
        for (long right = 33; right <= 126; right++) {
            CHECKS.same("byte " + right, new LassoFinder().write(right << 24), true);
        }
    }

    private static void limit() {
        // Jumps have no points, so this text fills all the room.
        String longest = "a;{:A-" + ";^A".repeat(77) + ";-}";
        CHECKS.same("length of the longest", longest.length(), 240);
        LassoFinder x = new LassoFinder();
        CHECKS.write(x, longest.substring(0, 239));
        CHECKS.same("two signs where one has room", x.write(0x7D7DL), false);
        CHECKS.same("the 240th sign", x.write(0x7D00000000L), true);
        CHECKS.same("the 241st sign", x.write(0x2DL), false);
        CHECKS.same("nothing at the limit", x.write(0L), true);
        CHECKS.same("a wrong byte at the limit", x.write(1L), false);
        CHECKS.same("states of the longest", Checks.statesOf(x), 1);
        CHECKS.write(x, longest);
        CHECKS.same("states of the longest again", Checks.statesOf(x), 1);
    }

    private static void emptyAgain() {
        LassoFinder x = CHECKS.modelled("{-}", 2);
        CHECKS.throwing("no text", Checks.IAE, () -> x.model());
        CHECKS.same("place of no text", x.place(), 0);
    }
}
