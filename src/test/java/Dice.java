/** Numbers that look thrown but are the same each time, and texts made with them. */
final class Dice {
    private long seed;
    private int names;
    private int channels;
    private int budget;

    Dice(long seed) {
        this.seed = seed;
    }

    int upTo(int bound) {
        seed = seed * 6364136223846793005L + 1442695040888963407L;
        return (int) ((seed >>> 33) % bound);
    }

    boolean chance(int percent) {
        return upTo(100) < percent;
    }

    private String name() {
        return String.valueOf((char) ('a' + upTo(names)));
    }

    private String channel() {
        return String.valueOf((char) ('h' - upTo(channels)));
    }

    String expression(int deep) {
        int kind = upTo(deep == 0 ? 2 : 7);
        switch (kind) {
            case 0:
                return String.valueOf(upTo(3));
            case 1:
                return channels > 0 && chance(30) ? channel() : name();
            case 2:
                return name() + "=" + upTo(3);
            case 3:
                return "1-" + name();
            case 4:
                return "(" + expression(deep - 1) + ")" + "+-*=<".charAt(upTo(5)) + "(" + expression(deep - 1) + ")";
            case 5:
                return name() + "<" + upTo(3);
            default:
                return name() + "+-*".charAt(upTo(3)) + upTo(8);
        }
    }

    String model() {
        StringBuilder out = new StringBuilder();
        names = 1 + upTo(2);
        channels = upTo(3);
        for (int i = 0; i < names; i++) {
            out.append((char) ('a' + i)).append(chance(50) ? "=" + upTo(3) : "").append(';');
        }
        for (int i = 0; i < channels; i++) {
            out.append('#').append((char) ('h' - i)).append(chance(50) ? 0 : upTo(4)).append(';');
        }
        int processes = 1 + upTo(3);
        for (int p = 0; p < processes; p++) {
            budget = 6;
            String body = body(0, ' ', false);
            if (chance(60)) {
                body = "*[" + body + (chance(30) ? "|" + body(1, '*', false) : "") + "]";
            }
            out.append('{').append(body).append('}');
        }
        return out.toString();
    }

    private String body(int deep, char inside, boolean atomic) {
        StringBuilder out = new StringBuilder();
        int items = 1 + upTo(3);
        for (int i = 0; i < items; i++) {
            out.append(i == 0 ? "" : ";");
            if (chance(20)) {
                out.append(':').append((char) ('A' + upTo(8)));
            }
            out.append(statement(deep, inside, atomic, i == 0));
        }
        return out.toString();
    }

    private String statement(int deep, char inside, boolean atomic, boolean first) {
        budget--;
        int kind = upTo(budget > 0 && deep < 4 ? 16 : 10);
        if (first && inside == '*' && chance(25)) {
            return "~";
        }
        switch (kind) {
            case 0:
            case 1:
            case 2:
                return name() + "=" + expression(1);
            case 3:
                return "(" + expression(2) + ")";
            case 4:
            case 5:
                return channels > 0 ? channel() + "!" + expression(1) : "-";
            case 6:
            case 7:
                return channels > 0 ? channel() + "?" + name() : "-";
            case 8:
                return !first && deep > 0 && chance(60) ? "." : "-";
            case 9:
                return !first && chance(60) ? "^" + (char) ('A' + upTo(3)) : "-";
            case 10:
            case 11:
                return atomic ? "-" : "<" + body(deep + 1, '<', true) + ">";
            default:
                StringBuilder out = new StringBuilder(chance(50) ? "*[" : "[");
                int options = 1 + upTo(3);
                for (int i = 0; i < options; i++) {
                    out.append(i == 0 ? "" : "|").append(body(deep + 1, '*', atomic));
                }
                return out.append(']').toString();
        }
    }

    /** A formula about a model whose text is that. */
    String formula(int temporals, int deep, String model) {
        int kind = upTo(10);
        if (temporals > 0 && deep < 7 && kind < 6) {
            int left = upTo(temporals);
            switch (kind) {
                case 0:
                case 1:
                    return "G" + unit(temporals - 1, deep + 1, model);
                case 2:
                case 3:
                    return "F" + unit(temporals - 1, deep + 1, model);
                case 4:
                    return unit(left, deep, model) + "U" + unit(temporals - 1 - left, deep + 1, model);
                default:
                    return unit(left, deep, model) + "R" + unit(temporals - 1 - left, deep + 1, model);
            }
        }
        if (deep < 5 && kind < 9) {
            int left = upTo(temporals + 1);
            return unit(left, deep, model) + "&|>".charAt(upTo(3)) + unit(temporals - left, deep + 1, model);
        }
        return unit(temporals, deep, model);
    }

    private String unit(int temporals, int deep, String model) {
        if (temporals > 0 && deep < 8 || deep < 3 && chance(20)) {
            return (chance(20) ? "!" : "") + "(" + formula(temporals, deep + 2, model) + ")";
        }
        int label = model.indexOf(':', upTo(model.length()));
        if (label >= 0 && chance(50)) {
            int process = -1;
            for (int i = 0; i < label; i++) {
                process += model.charAt(i) == '{' ? 1 : 0;
            }
            return (chance(30) ? "!" : "") + "@" + process + model.charAt(label + 1);
        }
        return (chance(20) ? "!" : "") + "{" + expression(1) + "}";
    }

    /** The text with a character left out, put in, changed, or the rest cut off. */
    String spoiled(String text) {
        String signs = "abcdefgh01234567ABCDEFGH;={}()[]|<>*.^!?-~+:#@GFUR&$";
        int place = upTo(text.length());
        String from = chance(50) ? signs : text;
        char sign = from.charAt(upTo(from.length()));
        switch (upTo(8)) {
            case 0:
            case 1:
                return text.substring(0, place) + text.substring(place + 1);
            case 2:
            case 3:
            case 4:
                return text.substring(0, place) + sign + text.substring(place);
            case 5:
                return text.substring(0, place);
            default:
                return text.substring(0, place) + sign + text.substring(place + 1);
        }
    }
}
