import java.util.NoSuchElementException;
import java.util.function.IntPredicate;

/** Counts and prints the answers that are not due; what the tests of the project share. */
final class Check {
    /** A call of the class under test, or what else may throw. */
    interface Call {
        void make();
    }

    private static int right = 0;
    private static int wrong = 0;
    /** The case that is running, "" outside of cases. */
    private static String running = "";
    private static int toldBefore = 0;

    private Check() {
    }

    static void same(String call, long got, long due) {
        tell(got == due, call + " answered " + got + ", due is " + due);
    }

    static void sameText(String call, String got, String due) {
        tell(got.equals(due), call + " answered '" + got + "', due is '" + due + "'");
    }

    static void sameFloat(String call, float got, float due) {
        same(call + " (bits)", Float.floatToIntBits(got), Float.floatToIntBits(due));
    }

    static void sameDouble(String call, double got, double due) {
        same(call + " (bits)", Double.doubleToLongBits(got), Double.doubleToLongBits(due));
    }

    static void throwsMissing(String call, Call made) {
        throwsThis(call, NoSuchElementException.class, made);
    }

    static void throwsArgument(String call, Call made) {
        throwsThis(call, IllegalArgumentException.class, made);
    }

    static void throwsState(String call, Call made) {
        throwsThis(call, IllegalStateException.class, made);
    }

    static void throwsIndex(String call, Call made) {
        throwsThis(call, IndexOutOfBoundsException.class, made);
    }

    private static void throwsThis(String call, Class<? extends RuntimeException> due, Call made) {
        try {
            made.make();
            tell(false, call + " threw nothing, due is " + due.getName());
        } catch (RuntimeException thrown) {
            tell(thrown.getClass() == due, call + " threw " + thrown + ", due is " + due.getName());
        }
    }

    private static void tell(boolean asDue, String fault) {
        if (asDue) {
            right++;
        } else {
            fault(fault);
        }
    }

    static void fault(String fault) {
        wrong++;
        if (wrong <= 50) {
            System.out.println((running.isEmpty() ? "" : running + ": ") + fault);
        }
    }

    static void begin(String name) {
        running = name;
        toldBefore = right + wrong;
    }

    static void end() {
        if (right + wrong == toldBefore) {
            fault("this case looks at nothing");
        }
        running = "";
    }

    /** The set of states of which something is so, told by the state's number alone. */
    static long states(IntPredicate isSo) {
        long set = 0;
        for (int state = 0; state < 64; state++) {
            set |= isSo.test(state) ? 1L << state : 0L;
        }
        return set;
    }

    static int a(int state) {
        return state % 4;
    }

    static int b(int state) {
        return state / 4 % 4;
    }

    static int c(int state) {
        return state / 16;
    }

    /** The states in which the class says that a condition holds. */
    static long holding(String condition) {
        BackwardProofs x = new BackwardProofs();
        setBefore(x, condition);
        return x.before();
    }

    /** The value that the class says an expression has in a state. */
    static int value(String expression, int state) {
        BackwardProofs x = new BackwardProofs();
        setLess(x, 0, expression);
        return x.less(0, state);
    }

    /** Feeds a text, filled up with a sign that no length of a parse reaches. */
    static int feed(BackwardProofs x, String text) {
        int fed = 0;
        for (int from = 0; from < text.length(); from += 20) {
            fed = x.feed(four(text, from), four(text, from + 4), four(text, from + 8), four(text, from + 12),
                    four(text, from + 16));
        }
        return fed;
    }

    static int four(String text, int from) {
        int four = 0;
        for (int i = from; i < from + 4; i++) {
            four = four << 8 | (i < text.length() ? text.charAt(i) & 255 : 'z');
        }
        return four;
    }

    static int load(BackwardProofs x, String text) {
        feed(x, text);
        return x.load(text.length());
    }

    static BackwardProofs loaded(String text) {
        BackwardProofs x = new BackwardProofs();
        load(x, text);
        return x;
    }

    static int setBefore(BackwardProofs x, String text) {
        feed(x, text);
        return x.setBefore(text.length());
    }

    static int setAfter(BackwardProofs x, String text) {
        feed(x, text);
        return x.setAfter(text.length());
    }

    static int setKeep(BackwardProofs x, int loop, String text) {
        feed(x, text);
        return x.setKeep(loop, text.length());
    }

    static int setLess(BackwardProofs x, int loop, String text) {
        feed(x, text);
        return x.setLess(loop, text.length());
    }

    static String output(BackwardProofs x, int length) {
        StringBuilder text = new StringBuilder();
        for (int i = 0; i < length; i++) {
            text.append((char) x.outputByte(i));
        }
        return text.toString();
    }

    static String written(BackwardProofs x, int statement) {
        int length = x.writeNeed(statement);
        return length == BackwardProofs.NONE ? "" : output(x, length);
    }

    /** All that the object answers about the proof; two objects with the same picture hold the same proof. */
    static String picture(BackwardProofs x) {
        StringBuilder picture = new StringBuilder();
        for (int what = 0; what < 7; what++) {
            picture.append(x.value(what)).append(' ');
        }
        picture.append(x.before()).append(' ').append(x.after()).append(' ').append(x.needAhead()).append(' ');
        for (int statement = 0; statement < x.value(0); statement++) {
            for (int what = 0; what < 8; what++) {
                picture.append(x.statement(statement, what)).append(' ');
            }
            picture.append(x.need(statement)).append(' ').append(x.met(statement)).append(' ');
            picture.append(x.needNodes(statement)).append(' ').append(x.gap(statement)).append('\n');
        }
        for (int loop = 0; loop < x.value(1); loop++) {
            picture.append(x.loopSet(loop, 0)).append(' ').append(x.loopSet(loop, 1)).append(' ');
            picture.append(x.rounds(loop)).append(' ').append(x.safe(loop)).append(' ').append(x.unsafe(loop));
            for (int state = 0; state < 64; state++) {
                picture.append(' ').append(x.less(loop, state));
            }
        }
        for (int hole = 0; hole < x.value(2); hole++) {
            picture.append(' ').append(x.proves(hole)).append(' ').append(x.rights(hole));
        }
        for (int duty = 0; duty < x.value(4); duty++) {
            picture.append(' ').append(x.failing(duty)).append(' ').append(x.duty(duty, 1));
        }
        for (int state = 0; state < 64; state++) {
            picture.append('\n').append(x.run(state)).append(' ').append(x.steps(state)).append(' ');
            picture.append(x.costBits(state));
        }
        picture.append(x.wrong()).append(' ').append(x.dearest()).append(' ').append(x.meanBits());
        return picture.append(' ').append(x.share()).append(' ').append(x.trouble()).toString();
    }

    /** Looks at a text that a load refuses: the code and position, and that the program stays. */
    static void refused(String text, int code, int position) {
        BackwardProofs x = new BackwardProofs();
        feed(x, text);
        String call = "load of '" + text + "'";
        throwsState(call, () -> x.load(text.length()));
        same(call + ": errorCode()", x.errorCode(), code);
        same(call + ": errorPosition()", x.errorPosition(), position);
        same(call + ": value(0)", x.value(0), 4);
        same(call + ": feed() behind it", x.feed(0, 0, 0, 0, 0), 20);
    }

    static void finish(String name) {
        System.out.println(name + ": " + right + " answers as due, " + wrong + " not");
        if (wrong != 0 || right == 0) {
            System.exit(1);
        }
    }
}
