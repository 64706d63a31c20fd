/** Promise 2. */
final class WriteTest {
    private static final Checks CHECKS = new Checks("WriteTest");
    /** Jumps have no points, so this text fills all the room. */
    private static final String LONGEST = "a;{:A-" + ";^A".repeat(77) + ";-}";

    public static void main(String[] args) {
        behindTheText();
        zerosLeftOut();
        everyByte();
        nothingWrittenByWrongOnes();
        mostCharacters();
        nothingWrittenBeyond();
        bothWrong();
        roomAgain();
        CHECKS.end();
    }

    private static long word(String signs) {
        long word = 0;
        for (int i = 0; i < signs.length(); i++) {
            word = word << 8 | signs.charAt(i);
        }
        return word;
    }

    private static void behindTheText() {
        CHECKS.sentence("Writes behind the text the bytes of w .. the highest first: true");
        LassoFinder x = new LassoFinder();
        CHECKS.same("a word of eight", x.write(0x613B7B2D3B2D3B2DL), true);
        CHECKS.same("a word of one", x.write(0x7DL), true);
        CHECKS.same("a;{-;-;-}", Checks.statesOf(x), 4);
        // Each place shows at which sign the text is wrong, so all of them have the right order.
        String text = "a;{-;-;-;-;-;-x";
        for (int length = 1; length <= 8; length++) {
            LassoFinder y = new LassoFinder();
            for (int i = 0; i < text.length(); i += length) {
                y.write(word(text.substring(i, Math.min(i + length, text.length()))));
            }
            CHECKS.throwing("in words of " + length, Checks.IAE, () -> y.model());
            CHECKS.same("place, in words of " + length, y.place(), text.length() - 1);
        }
    }

    private static void zerosLeftOut() {
        CHECKS.sentence("the bytes of w that aren't 0");
        LassoFinder x = new LassoFinder();
        CHECKS.same("nothing to write", x.write(0L), true);
        CHECKS.same("zeros between", x.write(0x7B002D0000003B00L), true);
        CHECKS.same("nothing to write then", x.write(0L), true);
        CHECKS.same("zeros behind", x.write(0x2D7D000000000000L), true);
        CHECKS.same("{-;-}", Checks.statesOf(x), 3);
        CHECKS.same("zeros before", x.write(0x7BL), true);
        CHECKS.same("zeros on both sides", x.write(0x2D00000000L), true);
        CHECKS.same("at the highest", x.write(0x7D00000000000000L), true);
        CHECKS.same("{-}", Checks.statesOf(x), 2);
    }

    private static void everyByte() {
        CHECKS.sentence("if one isn't 33 .. 126");
        for (long b = 1; b < 256; b++) {
            boolean right = b >= 33 && b <= 126;
            for (int shift = 0; shift < 64; shift += 8) {
                LassoFinder x = new LassoFinder();
                CHECKS.same("byte " + b + " at " + shift, x.write(b << shift), right);
                long others = 0x2D2D2D2D2D2D2D2DL & ~(255L << shift);
                CHECKS.same("byte " + b + " among others at " + shift, x.write(others | b << shift), right);
            }
        }
        LassoFinder y = new LassoFinder();
        CHECKS.same("all bits", y.write(-1L), false);
        CHECKS.same("the lowest number", y.write(Long.MIN_VALUE), false);
        CHECKS.same("the highest number", y.write(Long.MAX_VALUE), false);
    }

    private static void nothingWrittenByWrongOnes() {
        CHECKS.sentence("false, and nothing is written, if one isn't 33 .. 126");
        long[] wrong = {1, 10, 32, 127, 128, 200, 255};
        for (long w : wrong) {
            for (int shift = 0; shift < 64; shift += 8) {
                LassoFinder x = new LassoFinder();
                CHECKS.write(x, "{-;");
                x.write(w << shift);
                x.write(0x2D2D2D2D2D2D2D2DL & ~(255L << shift) | w << shift);
                CHECKS.write(x, "-}");
                CHECKS.same("states after the wrong byte " + w, Checks.statesOf(x), 3);
            }
        }
    }

    private static LassoFinder full(int signs) {
        LassoFinder x = new LassoFinder();
        CHECKS.write(x, LONGEST.substring(0, signs));
        return x;
    }

    private static void mostCharacters() {
        CHECKS.sentence("or there would be more than 240 characters");
        CHECKS.same("length of the longest", LONGEST.length(), 240);
        CHECKS.same("states of the longest", Checks.statesOf(full(240)), 1);
        CHECKS.same("the 240th", full(239).write(0x7DL), true);
        CHECKS.same("the 241st", full(240).write(0x7DL), false);
        CHECKS.same("240th and 241st", full(239).write(0x7D7DL), false);
        for (int more = 1; more <= 8; more++) {
            CHECKS.same("up to 240 by " + more, full(240 - more).write(word("--------".substring(0, more))), true);
            CHECKS.same("up to 241 by " + more, full(241 - more).write(word("--------".substring(0, more))), false);
        }
        // Bytes that are 0 aren't characters.
        CHECKS.same("the 240th with zeros", full(239).write(0x7D00000000L), true);
        CHECKS.same("nothing at the limit", full(240).write(0L), true);
    }

    private static void nothingWrittenBeyond() {
        CHECKS.sentence("false, and nothing is written .. there would be more than 240 characters");
        LassoFinder x = full(239);
        CHECKS.same("two signs", x.write(0x7D7DL), false);
        CHECKS.same("eight signs", x.write(0x7D7D7D7D7D7D7D7DL), false);
        CHECKS.same("one sign", x.write(0x7DL), true);
        CHECKS.same("one sign more", x.write(0x7DL), false);
        CHECKS.same("states of the longest", Checks.statesOf(x), 1);
        CHECKS.same("place", x.place(), -1);
    }

    private static void bothWrong() {
        CHECKS.sentence("if one isn't 33 .. 126, or there would be more than 240 characters");
        CHECKS.same("a wrong byte at the limit", full(240).write(1L), false);
        CHECKS.same("a wrong byte and one too many", full(239).write(0x7D01L), false);
    }

    private static void roomAgain() {
        CHECKS.sentence("Reads the text as a model; the text is empty then (also when it throws)");
        LassoFinder x = full(240);
        CHECKS.same("the longest", Checks.statesOf(x), 1);
        CHECKS.write(x, LONGEST);
        CHECKS.same("the longest again", Checks.statesOf(x), 1);
        CHECKS.write(x, "x".repeat(240));
        CHECKS.throwing("a wrong one", Checks.IAE, () -> x.model());
        CHECKS.write(x, LONGEST);
        CHECKS.same("the longest behind a wrong one", Checks.statesOf(x), 1);
    }
}
