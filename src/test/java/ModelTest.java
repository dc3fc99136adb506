import java.util.ArrayList;
import java.util.List;

/** Compares the class with the Model (promises 3 to 44): many programs, many changes, many texts with errors. */
public final class ModelTest {
    private static final int PROGRAMS = 500;
    private static final int CHANGES = 14;

    private ModelTest() {
    }

    public static void main(String[] args) {
        Dice dice = new Dice(20261119L);
        for (int i = 0; i < PROGRAMS; i++) {
            String text = dice.description(i % 5 == 0 ? 24 : 1 + i % 9);
            Model model = Model.ofDescription(text);
            // what the object held before does not matter
            BackwardProofs x = Check.loaded(dice.description(1 + i % 24));
            Check.same("load of " + text, Check.load(x, text), model.statements.size());
            compare(text, x, model);
            change(text, x, model, dice);
        }
        for (int i = 0; i < 3000; i++) {
            compareError(dice.greatDescription());
            compareError(dice.spoiled(dice.description(1 + i % 24)));
            compareAloneError(dice.spoiled(dice.condition(4)), true);
            compareAloneError(dice.spoiled(dice.expression(4)), false);
        }
        Check.finish("ModelTest");
    }

    private static void compareError(String text) {
        int code = 0;
        int position = -1;
        try {
            Model.ofDescription(text);
        } catch (Model.Fault fault) {
            code = fault.code;
            position = fault.position;
        }
        BackwardProofs x = new BackwardProofs();
        boolean thrown = false;
        try {
            Check.load(x, text);
        } catch (IllegalStateException e) {
            thrown = true;
        }
        sameError(text, x, thrown, code, position);
    }

    private static void compareAloneError(String text, boolean condition) {
        int code = 0;
        int position = -1;
        try {
            Model.ofText(text, condition);
        } catch (Model.Fault fault) {
            code = fault.code;
            position = fault.position;
        }
        BackwardProofs x = new BackwardProofs();
        boolean thrown = false;
        try {
            if (condition) {
                Check.setAfter(x, text);
            } else {
                Check.setLess(x, 0, text);
            }
        } catch (IllegalStateException e) {
            thrown = true;
        }
        sameError(text, x, thrown, code, position);
        Check.same("value(7) behind " + text, x.value(7), code == 0 ? 1 : 0);
    }

    private static void sameError(String text, BackwardProofs x, boolean thrown, int code, int position) {
        Check.same("throws for '" + text + "'", thrown ? 1 : 0, code == 0 ? 0 : 1);
        Check.same("errorCode() of '" + text + "'", x.errorCode(), code);
        Check.same("errorPosition() of '" + text + "'", x.errorPosition(), position);
        Check.same("feed behind '" + text + "'", x.feed(0, 0, 0, 0, 0), 20);
    }

    private static void change(String text, BackwardProofs x, Model model, Dice dice) {
        List<Model.Changeable> past = new ArrayList<>();
        Model.Changeable[] slots = new Model.Changeable[2];
        for (int i = 0; i < CHANGES; i++) {
            changeOnce(text + " (change " + i + ")", x, model, dice, past, slots);
        }
        compare(text + " (changed)", x, model);
        for (int i = past.size() - 1; i >= 0; i--) {
            model.now = past.get(i);
            boolean lost = past.size() - i > 10;
            if (lost) {
                Check.throwsState(text + " undo() of nothing", x::undo);
                break;
            }
            Check.same(text + " undo()", x.undo(), Math.min(10, past.size()) - (past.size() - i));
        }
        if (past.size() <= 10) {
            compare(text + " (undone)", x, model);
        }
    }

    private static void changeOnce(String name, BackwardProofs x, Model model, Dice dice, List<Model.Changeable> past,
            Model.Changeable[] slots) {
        Model.Changeable former = model.now.copy();
        int kind = dice.below(9);
        int slot = dice.below(2);
        if (kind == 8 || kind == 7 && slots[slot] == null) {
            slots[slot] = model.now.copy();
            int held = (slots[0] == null ? 0 : 1) + (slots[1] == null ? 0 : 1);
            Check.same(name + " save()", x.save(slot), held);
            return;
        }
        if (kind == 7) {
            model.now = slots[slot].copy();
            Check.same(name + " restore()", x.restore(slot), failed(model));
        } else if (kind >= 5 && !model.holes.isEmpty()) {
            int hole = dice.below(model.holes.size());
            int filling = dice.below(40) - 1;
            model.now.filling.set(hole, filling);
            Check.same(name + " fill()", x.fill(hole, filling), failed(model));
        } else if (kind >= 3 && !model.loops.isEmpty()) {
            changeLoop(name, x, model, dice, kind == 3);
        } else {
            changeOther(name, x, model, dice, kind);
        }
        past.add(former);
        Check.same(name + " value(7)", x.value(7), Math.min(10, past.size()));
    }

    private static void changeLoop(String name, BackwardProofs x, Model model, Dice dice, boolean keep) {
        int loop = dice.below(model.loops.size());
        String part = keep ? dice.shortCondition() : dice.expression(2);
        Model.Node node = Model.ofText(part, keep);
        if (keep) {
            model.now.keep.set(loop, node);
            Check.same(name + " setKeep()", Check.setKeep(x, loop, part), Long.bitCount(Model.set(node)));
            return;
        }
        model.now.less.set(loop, node);
        int greatest = -1;
        for (int state = 0; state < 64; state++) {
            if (model.now.keep.get(loop).holds(state)) {
                greatest = Math.max(greatest, node.value(state));
            }
        }
        Check.same(name + " setLess()", Check.setLess(x, loop, part), greatest);
    }

    private static void changeOther(String name, BackwardProofs x, Model model, Dice dice, int kind) {
        String part = dice.shortCondition();
        Model.Node node = Model.ofText(part, true);
        if (kind == 0) {
            model.now.before = node;
            Check.same(name + " setBefore()", Check.setBefore(x, part), Long.bitCount(Model.set(node)));
        } else if (kind == 1) {
            model.now.after = node;
            Check.same(name + " setAfter()", Check.setAfter(x, part), Long.bitCount(Model.set(node)));
        } else {
            int statement = dice.below(model.statements.size());
            int price = dice.below(100);
            Check.same(name + " setPrice()", x.setPrice(statement, price), model.now.price.get(statement));
            model.now.price.set(statement, price);
        }
    }

    private static int failed(Model model) {
        int failed = 0;
        for (long set : model.failing()) {
            failed += set == 0 ? 0 : 1;
        }
        return failed;
    }

    private static void compare(String text, BackwardProofs x, Model model) {
        compareStatements(text, x, model);
        compareLoops(text, x, model);
        compareDuties(text, x, model);
        compareRuns(text, x, model);
        for (Model.Statement hole : model.holes) {
            String name = text + ": hole " + hole.number;
            Check.same(name + " proves()", x.proves(hole.number), model.least(hole.number, true));
            Check.same(name + " rights()", x.rights(hole.number), model.least(hole.number, false));
        }
        Check.same(text + " value(5) behind all", x.value(5), failed(model));
    }

    private static void compareStatements(String text, BackwardProofs x, Model model) {
        Check.same(text + " value(0)", x.value(0), model.statements.size());
        Check.same(text + " value(1)", x.value(1), model.loops.size());
        Check.same(text + " value(2)", x.value(2), model.holes.size());
        int filled = 0;
        for (int filling : model.now.filling) {
            filled += filling < 0 ? 0 : 1;
        }
        Check.same(text + " value(3)", x.value(3), filled);
        Check.same(text + " before()", x.before(), Model.set(model.now.before));
        Check.same(text + " after()", x.after(), Model.set(model.now.after));
        Check.same(text + " needAhead()", x.needAhead(), model.needAhead());
        Check.sameFloat(text + " share()", x.share(), Long.bitCount(model.needAhead()) / 64.0f);
        model.write();
        for (Model.Statement s : model.statements) {
            compareStatement(text + ": statement " + s.index, x, model, s);
        }
    }

    private static void compareStatement(String name, BackwardProofs x, Model model, Model.Statement s) {
        int nodes = s.part == null ? 0 : s.part.nodes();
        if (s.kind == 2) {
            nodes += model.now.keep.get(s.number).nodes() + model.now.less.get(s.number).nodes();
        }
        int[] due = {s.kind, model.target(s), s.depth, s.first.size(), s.second.size(), model.now.price.get(s.index),
            nodes, s.number};
        for (int what = 0; what < due.length; what++) {
            Check.same(name + " what " + what, x.statement(s.index, what), due[what]);
        }
        Check.same(name + " need()", x.need(s.index), s.need);
        String written = s.written == null ? "" : s.written.text();
        Check.same(name + " needNodes()", x.needNodes(s.index), s.written == null ? -1 : s.written.nodes());
        Check.same(name + " writeNeed()", x.writeNeed(s.index), s.written == null ? -1 : written.length());
        Check.sameText(name + " output", Check.written(x, s.index), written);
        Check.same(name + " gap()", x.gap(s.index), 0);
        if (s.written != null) {
            Check.same(name + " need as a condition", Model.set(s.written), s.need);
        }
    }

    private static void compareLoops(String text, BackwardProofs x, Model model) {
        for (Model.Statement loop : model.loops) {
            String name = text + ": loop " + loop.number;
            long kept = Model.set(model.now.keep.get(loop.number));
            Check.same(name + " loopSet(0)", x.loopSet(loop.number, 0), Model.set(loop.part));
            Check.same(name + " loopSet(1)", x.loopSet(loop.number, 1), kept);
            for (int state = 0; state < 64; state++) {
                Check.same(name + " less()", x.less(loop.number, state), model.now.less.get(loop.number).value(state));
            }
            Check.same(name + " safe()", x.safe(loop.number), model.safe(loop));
            Check.same(name + " unsafe()", x.unsafe(loop.number), kept & ~model.safe(loop));
        }
    }

    private static void compareDuties(String text, BackwardProofs x, Model model) {
        List<Long> failing = model.failing();
        int trouble = -1;
        Check.same(text + " value(4)", x.value(4), failing.size());
        for (int duty = failing.size() - 1; duty >= 0; duty--) {
            String name = text + ": duty " + duty;
            long set = failing.get(duty);
            trouble = set == 0 ? trouble : duty;
            Check.same(name + " failing()", x.failing(duty), set);
            Check.same(name + " kind", x.duty(duty, 0), duty == 0 ? 0 : (duty + 2) % 3 + 1);
            Check.same(name + " statement", x.duty(duty, 1), duty == 0 ? -1 : model.loops.get((duty - 1) / 3).index);
            Check.same(name + " how many", x.duty(duty, 2), Long.bitCount(set));
            Check.same(name + " least", x.duty(duty, 3), set == 0 ? -1 : Long.numberOfTrailingZeros(set));
        }
        Check.same(text + " trouble()", x.trouble(), trouble);
        Check.same(text + " value(5)", x.value(5), failed(model));
        Check.same(text + " value(6)", x.value(6), model.proven() ? 1 : 0);
        if (model.proven()) {
            Check.same(text + " proven, so wrong()", x.wrong(), 0);
        }
    }

    private static void compareRuns(String text, BackwardProofs x, Model model) {
        long[] met = new long[25];
        int[] rounds = new int[25];
        double together = 0.0;
        int ended = 0;
        int dearest = -1;
        float greatest = -1.0f;
        for (int state = 0; state < 64; state++) {
            Model.Run run = model.run(state);
            compareRun(text + ": state " + state, x, state, run);
            if (!model.now.before.holds(state)) {
                continue;
            }
            for (int s = 0; s < model.statements.size(); s++) {
                for (int there : run.met.get(s)) {
                    met[s] |= 1L << there;
                }
            }
            if (run.end < 0) {
                continue;
            }
            for (int loop = 0; loop < model.loops.size(); loop++) {
                rounds[loop] = Math.max(rounds[loop], run.rounds[loop]);
            }
            together += run.cost;
            ended++;
            if (run.cost > greatest) {
                greatest = run.cost;
                dearest = state;
            }
        }
        for (int s = 0; s < model.statements.size(); s++) {
            Check.same(text + ": met(" + s + ")", x.met(s), met[s]);
        }
        for (int loop = 0; loop < model.loops.size(); loop++) {
            Check.same(text + ": rounds(" + loop + ")", x.rounds(loop), rounds[loop]);
        }
        double mean = ended == 0 ? 0.0 : together / ended;
        Check.same(text + " wrong()", x.wrong(), model.wrong());
        Check.same(text + " dearest()", x.dearest(), dearest);
        Check.sameDouble(text + " meanCost()", x.meanCost(), mean);
        Check.same(text + " meanBits()", x.meanBits(), Double.doubleToLongBits(mean));
    }

    private static void compareRun(String name, BackwardProofs x, int state, Model.Run run) {
        Check.same(name + " run()", x.run(state), run.end);
        Check.same(name + " steps()", x.steps(state), run.steps);
        Check.sameFloat(name + " cost()", x.cost(state), run.cost);
        Check.same(name + " costBits()", x.costBits(state), Float.floatToIntBits(run.cost));
    }
}
