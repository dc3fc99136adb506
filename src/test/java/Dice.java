/** Numbers that look random and are the same in every run, and texts made of them. */
final class Dice {
    private long seed;
    private int statements;

    Dice(long seed) {
        this.seed = seed;
    }

    int below(int bound) {
        seed = seed * 6364136223846793005L + 1442695040888963407L;
        return (int) ((seed >>> 33) % bound);
    }

    String variable() {
        return "" + (char) ('a' + below(3));
    }

    String expression(int depth) {
        int kind = below(depth <= 0 ? 4 : 10);
        if (kind < 2) {
            return variable();
        }
        if (kind < 4) {
            return "" + below(4);
        }
        String word = kind < 6 ? "plus " : kind < 8 ? "minus " : "times ";
        return word + expression(depth - 1) + " " + expression(depth - 1);
    }

    String condition(int depth) {
        int kind = below(depth <= 0 ? 5 : 10);
        if (kind == 0) {
            return below(3) == 0 ? "false" : "true";
        }
        if (kind < 5) {
            return (kind < 3 ? "eq " : "lt ") + expression(1) + " " + expression(1);
        }
        if (kind == 5) {
            return "not " + condition(depth - 1);
        }
        return (kind < 8 ? "and " : "or ") + condition(depth - 1) + " " + condition(depth - 1);
    }

    /** A condition that is allowed: most of those of condition(2) have not too many words. */
    String shortCondition() {
        String text = condition(2);
        return text.split(" ").length > 30 ? "true" : text;
    }

    /** A description of at most 800 bytes with at most this many statements. */
    String description(int most) {
        for (int i = 0; i < 1000; i++) {
            statements = most;
            String text = "proof " + shortCondition() + " " + shortCondition() + row(0, 1 + below(most));
            if (text.length() <= 800) {
                return text;
            }
        }
        return "proof true true";
    }

    private String row(int depth, int length) {
        StringBuilder row = new StringBuilder();
        for (int i = 0; i < length && statements > 0; i++) {
            statements--;
            row.append(below(12) == 0 ? "\n" : " ").append(statement(depth));
        }
        return row.toString();
    }

    private String statement(int depth) {
        int kind = below(depth > 5 ? 5 : 10);
        if (kind < 3) {
            return "set " + variable() + " " + expression(2);
        }
        if (kind < 5) {
            return "hole";
        }
        if (kind < 7) {
            return "if " + condition(1) + row(depth + 1, below(3)) + " else" + row(depth + 1, below(3)) + " end";
        }
        if (kind < 8 || statements == 0) {
            return "while " + condition(1) + " keep " + condition(1) + " less " + expression(1)
                    + row(depth + 1, below(4)) + " end";
        }
        return countingLoop(depth);
    }

    /** A loop that mostly ends. */
    private String countingLoop(int depth) {
        String variable = variable();
        statements--;
        return "while lt 0 " + variable + " keep " + (below(2) == 0 ? "true" : condition(1)) + " less " + variable
                + row(depth + 1, below(3)) + " set " + variable + " minus " + variable + " 1"
                + row(depth + 1, below(2)) + " end";
    }

    /** A description that may have too many statements, or too many nodes in a condition. */
    String greatDescription() {
        StringBuilder text = new StringBuilder("proof true ").append(condition(below(3) == 0 ? 5 : 1));
        String[] some = {"hole", "set a 1", "if true else end", "while true keep true less 0 end", "set c plus a b"};
        for (int length = 18 + below(12); length > 0; length--) {
            text.append(' ').append(some[below(some.length)]);
        }
        return text.length() > 800 ? text.substring(0, 800) : text.toString();
    }

    /** The text with some places changed, so that it mostly has an error. */
    String spoiled(String text) {
        StringBuilder spoiled = new StringBuilder(text);
        for (int times = 1 + below(2); times > 0; times--) {
            int at = below(spoiled.length());
            switch (below(6)) {
                case 0:
                    spoiled.deleteCharAt(at);
                    break;
                case 1:
                    spoiled.insert(at, (char) (' ' + below(95)));
                    break;
                case 2:
                    spoiled.insert(at, 1 + below(99));
                    break;
                case 3:
                    spoiled.insert(at, " " + word() + " ");
                    break;
                case 4:
                    spoiled.setLength(at);
                    break;
                default:
                    spoiled.setCharAt(at, (char) below(256));
                    break;
            }
            if (spoiled.length() == 0) {
                spoiled.append(' ');
            }
        }
        return spoiled.length() > 800 ? spoiled.substring(0, 800) : spoiled.toString();
    }

    private String word() {
        String[] words = {"set", "if", "else", "end", "while", "keep", "less", "hole", "proof", "a", "c", "plus", "true",
            "eq", "and", "not", "0", "3", "4", "1000", "0002", "003", "d"};
        return words[below(words.length)];
    }
}
