import com.sun.management.ThreadMXBean;
import java.lang.management.ManagementFactory;

/**
 * "An object is used for at most 512 calls": any method may be all of them, the last call answers as the first one, and
 * what they make stays far within the room that all calls of one run have.
 */
public final class RoomTest {
    private interface Called {
        long on(BackwardProofs x);
    }

    private static final int CALLS = 512;
    /** The room has 7.3 million fields and elements and 600,000 objects; none is less than a byte, or 16 of them. */
    private static final long MOST_BYTES = 1_500_000L;
    /** Loops in loops in loops, and the most statements that there may be. */
    private static final String GREAT = "proof true eq a 0 while lt 0 a keep true less a while lt 0 b keep true less b "
            + "while lt 0 c keep true less c hole set c minus c 1 end set b minus b 1 set c 3 end set a minus a 1 set b 3 "
            + "end if eq a b hole hole hole hole else hole hole hole hole end hole hole hole hole set a 0 hole";
    private static final ThreadMXBean THREADS = (ThreadMXBean) ManagementFactory.getThreadMXBean();

    private RoomTest() {
    }

    public static void main(String[] args) {
        Check.same("statements", Check.loaded(GREAT).value(0), 24);
        for (int time = 0; time < 2; time++) {
            // the first time the machine itself makes what it needs to run these lines
            boolean counts = time == 1;
            questions(counts);
            runs(counts);
            wouldBe(counts);
            changes(counts);
            texts(counts);
        }
        Check.finish("RoomTest");
    }

    private static void questions(boolean counts) {
        look(counts, "value", x -> x.value(5));
        look(counts, "statement", x -> x.statement(4, 6));
        look(counts, "before", BackwardProofs::before);
        look(counts, "after", BackwardProofs::after);
        look(counts, "loopSet", x -> x.loopSet(2, 1));
        look(counts, "less", x -> x.less(2, 63));
        look(counts, "need", x -> x.need(5));
        look(counts, "needAhead", BackwardProofs::needAhead);
        look(counts, "duty", x -> x.duty(9, 2));
        look(counts, "failing", x -> x.failing(9));
        look(counts, "trouble", BackwardProofs::trouble);
        look(counts, "errorCode", BackwardProofs::errorCode);
        look(counts, "errorPosition", BackwardProofs::errorPosition);
    }

    private static void runs(boolean counts) {
        look(counts, "run", x -> x.run(63));
        look(counts, "steps", x -> x.steps(63));
        look(counts, "cost", x -> (long) x.cost(63));
        look(counts, "costBits", x -> x.costBits(63));
        look(counts, "met", x -> x.met(23));
        look(counts, "rounds", x -> x.rounds(2));
        look(counts, "wrong", BackwardProofs::wrong);
        look(counts, "dearest", BackwardProofs::dearest);
        look(counts, "meanCost", x -> (long) x.meanCost());
        look(counts, "meanBits", BackwardProofs::meanBits);
        look(counts, "share", x -> (long) (64.0f * x.share()));
    }

    private static void wouldBe(boolean counts) {
        look(counts, "proves", x -> x.proves(10));
        look(counts, "rights", x -> x.rights(13));
        look(counts, "safe", x -> x.safe(0));
        look(counts, "unsafe", x -> x.unsafe(0));
        look(counts, "writeNeed", x -> x.writeNeed(11));
        look(counts, "needNodes", x -> x.needNodes(11));
        look(counts, "gap", x -> x.gap(11));
    }

    private static void changes(boolean counts) {
        look(counts, "save", x -> x.save(1));
        look(counts, "setPrice", x -> x.setPrice(7, 10));
        look(counts, "fill", x -> x.fill(0, 38));
        look(counts, "fill and undo", x -> x.fill(0, 37) + x.undo());
        look(counts, "save and restore", x -> x.save(0) + x.restore(0));
    }

    /** The feeds ahead of a text are calls, too: these are even more calls than 512. */
    private static void texts(boolean counts) {
        look(counts, "setBefore", x -> Check.setBefore(x, "lt a 3"));
        look(counts, "setAfter", x -> Check.setAfter(x, "lt a 3"));
        look(counts, "setKeep", x -> Check.setKeep(x, 2, "lt a 3"));
        look(counts, "setLess", x -> Check.setLess(x, 2, "plus a 3"));
        look(counts, "load", x -> Check.load(x, "proof true true hole"));
        look(counts, "load of a great text", x -> Check.load(x, GREAT));
    }

    private static void look(boolean counts, String name, Called called) {
        long ahead = THREADS.getCurrentThreadAllocatedBytes();
        BackwardProofs x = new BackwardProofs();
        Check.load(x, GREAT);
        long first = called.on(x);
        long last = first;
        for (int call = 1; call < CALLS; call++) {
            last = called.on(x);
        }
        long made = THREADS.getCurrentThreadAllocatedBytes() - ahead;
        if (counts) {
            Check.same(name + "() as the last call", last, first);
            Check.same(name + "() makes " + made + " bytes, more than are due", made > MOST_BYTES ? 1 : 0, 0);
        }
    }
}
