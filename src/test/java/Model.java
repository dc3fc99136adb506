import java.util.ArrayList;
import java.util.HashSet;
import java.util.List;
import java.util.Set;

/**
 * The document once more, in another way than the class under test: trees that call themselves, one state at a time,
 * nothing kept between two questions.
 */
final class Model {
    /** A text has an error. */
    static final class Fault extends RuntimeException {
        private static final long serialVersionUID = 1L;
        final int code;
        final int position;

        Fault(int code, int position) {
            this.code = code;
            this.position = position;
        }
    }

    /** A run does not end. */
    static final class Endless extends RuntimeException {
        private static final long serialVersionUID = 1L;
    }

    static final class Node {
        final String word;
        final List<Node> parts = new ArrayList<>();

        Node(String word) {
            this.word = word;
        }

        int nodes() {
            int nodes = 1;
            for (Node part : parts) {
                nodes += part.nodes();
            }
            return nodes;
        }

        String text() {
            StringBuilder text = new StringBuilder(word);
            for (Node part : parts) {
                text.append(' ').append(part.text());
            }
            return text.toString();
        }

        boolean holds(int state) {
            switch (word) {
                case "true": return true;
                case "false": return false;
                case "eq": return parts.get(0).value(state) == parts.get(1).value(state);
                case "lt": return parts.get(0).value(state) < parts.get(1).value(state);
                case "not": return !parts.get(0).holds(state);
                case "and": return parts.get(0).holds(state) && parts.get(1).holds(state);
                default: return parts.get(0).holds(state) || parts.get(1).holds(state);
            }
        }

        int value(int state) {
            switch (word) {
                case "a": return state % 4;
                case "b": return state / 4 % 4;
                case "c": return state / 16;
                case "plus": return (parts.get(0).value(state) + parts.get(1).value(state)) % 4;
                case "minus": return (parts.get(0).value(state) + 4 - parts.get(1).value(state)) % 4;
                case "times": return parts.get(0).value(state) * parts.get(1).value(state) % 4;
                default: return Integer.parseInt(word);
            }
        }

        /** This tree with an expression in place of a variable; null if it has more than 200 nodes. */
        Node swapped(int variable, Node expression) {
            Node swapped = swappedFreely(variable, expression);
            return swapped.nodes() > 200 ? null : swapped;
        }

        private Node swappedFreely(int variable, Node expression) {
            if (word.equals(NAMES[variable])) {
                return expression;
            }
            Node swapped = new Node(word);
            for (Node part : parts) {
                swapped.parts.add(part.swappedFreely(variable, expression));
            }
            return swapped;
        }
    }

    static final class Statement {
        int kind;
        int index;
        int number = -1;
        int variable = -1;
        int depth;
        Node part;
        final List<Statement> first = new ArrayList<>();
        final List<Statement> second = new ArrayList<>();
        long need;
        long needBehind;
        Node written;
    }

    /** What changes change. */
    static final class Changeable {
        Node before;
        Node after;
        final List<Node> keep = new ArrayList<>();
        final List<Node> less = new ArrayList<>();
        final List<Integer> filling = new ArrayList<>();
        final List<Integer> price = new ArrayList<>();

        Changeable copy() {
            Changeable copy = new Changeable();
            copy.before = before;
            copy.after = after;
            copy.keep.addAll(keep);
            copy.less.addAll(less);
            copy.filling.addAll(filling);
            copy.price.addAll(price);
            return copy;
        }
    }

    /** One run. */
    final class Run {
        int steps = 0;
        float cost = 0.0f;
        int end = -1;
        final List<Set<Integer>> met = new ArrayList<>();
        final int[] rounds = new int[25];

        Run(int state, List<Statement> row) {
            for (int i = 0; i < statements.size(); i++) {
                met.add(new HashSet<>());
            }
            try {
                end = row(row, state);
            } catch (Endless endless) {
                steps = -1;
                cost = -1.0f;
            }
        }

        private int row(List<Statement> row, int state) {
            int at = state;
            for (Statement s : row) {
                at = statement(s, at);
            }
            return at;
        }

        private void step(Statement s, int state) {
            met.get(s.index).add(state);
            steps++;
            cost += (float) now.price.get(s.index) / 10.0f;
        }

        private int statement(Statement s, int state) {
            if (s.kind != 2) {
                step(s, state);
                return s.kind == 1 ? row(s.part.holds(state) ? s.first : s.second, state) : assigned(s, state);
            }
            Set<Integer> looked = new HashSet<>();
            int at = state;
            int done = 0;
            while (true) {
                step(s, at);
                if (!looked.add(at)) {
                    throw new Endless();
                }
                if (!s.part.holds(at)) {
                    rounds[s.number] = Math.max(rounds[s.number], done);
                    return at;
                }
                at = row(s.first, at);
                done++;
            }
        }
    }

    static final String[] NAMES = {"a", "b", "c"};

    final List<Statement> statements = new ArrayList<>();
    final List<Statement> loops = new ArrayList<>();
    final List<Statement> holes = new ArrayList<>();
    final List<Statement> row = new ArrayList<>();
    Changeable now = new Changeable();

    // ---- texts

    private String text = "";
    private int at = 0;
    private int nodes = 0;

    static Model ofDescription(String text) {
        Model model = new Model();
        model.text = text;
        model.word("proof");
        model.now.before = model.whole(true);
        model.now.after = model.whole(true);
        model.rowOf(model.row, 0);
        if (!model.peek().isEmpty()) {
            throw new Fault(1, model.start());
        }
        return model;
    }

    static Node ofText(String text, boolean condition) {
        Model model = new Model();
        model.text = text;
        Node node = model.whole(condition);
        if (!model.peek().isEmpty()) {
            throw new Fault(1, model.start());
        }
        return node;
    }

    private int start() {
        int from = at;
        while (from < text.length() && (text.charAt(from) == ' ' || text.charAt(from) == '\n')) {
            from++;
        }
        return from;
    }

    /** The next token; "" at the end; "?" for what no text may have there. */
    private String peek() {
        int from = start();
        if (from == text.length()) {
            return "";
        }
        int to = from;
        while (to < text.length() && text.substring(from, to + 1).matches("[a-z]+|[0-9]+")) {
            to++;
        }
        boolean glued = from == at && at > 0;
        return to == from || glued ? "?" : text.substring(from, to);
    }

    private void take() {
        String token = peek();
        at = start() + token.length();
    }

    private void word(String word) {
        if (!peek().equals(word)) {
            throw new Fault(1, start());
        }
        take();
    }

    private Node whole(boolean condition) {
        nodes = 0;
        return node(condition);
    }

    private Node node(boolean condition) {
        String token = peek();
        int position = start();
        String allowed = condition ? "true|false|eq|lt|not|and|or" : "a|b|c|plus|minus|times|[0-9]{1,3}";
        if (!token.matches(allowed)) {
            throw new Fault(1, position);
        }
        boolean number = token.matches("[0-9]+");
        if (number && Integer.parseInt(token) > 3) {
            throw new Fault(2, position);
        }
        nodes++;
        if (nodes > 30) {
            throw new Fault(4, position);
        }
        take();
        Node node = new Node(number ? "" + Integer.parseInt(token) : token);
        if (token.matches("plus|minus|times|eq|lt")) {
            node.parts.add(node(false));
            node.parts.add(node(false));
        } else if (token.matches("not|and|or")) {
            node.parts.add(node(true));
            if (!token.equals("not")) {
                node.parts.add(node(true));
            }
        }
        return node;
    }

    private void rowOf(List<Statement> into, int depth) {
        while (peek().matches("set|if|while|hole")) {
            if (statements.size() == 24) {
                throw new Fault(3, start());
            }
            String token = peek();
            Statement s = new Statement();
            s.depth = depth;
            s.index = statements.size();
            statements.add(s);
            into.add(s);
            now.price.add(10);
            take();
            statement(s, token, depth);
        }
    }

    private void statement(Statement s, String token, int depth) {
        if (token.equals("set")) {
            s.kind = 0;
            if (!peek().matches("[abc]")) {
                throw new Fault(1, start());
            }
            s.variable = peek().charAt(0) - 'a';
            take();
            s.part = whole(false);
        } else if (token.equals("if")) {
            s.kind = 1;
            s.part = whole(true);
            rowOf(s.first, depth + 1);
            word("else");
            rowOf(s.second, depth + 1);
            word("end");
        } else if (token.equals("while")) {
            s.kind = 2;
            s.number = loops.size();
            loops.add(s);
            s.part = whole(true);
            word("keep");
            now.keep.add(whole(true));
            word("less");
            now.less.add(whole(false));
            rowOf(s.first, depth + 1);
            word("end");
        } else {
            s.kind = 3;
            s.number = holes.size();
            holes.add(s);
            now.filling.add(-1);
        }
    }

    // ---- what is asked

    int target(Statement s) {
        if (s.kind == 3 && now.filling.get(s.number) >= 0) {
            return now.filling.get(s.number) / 13;
        }
        return s.variable;
    }

    private Node expression(Statement s) {
        if (s.kind == 0) {
            return s.part;
        }
        int form = now.filling.get(s.number) % 13;
        if (form < 4) {
            return new Node("" + form);
        }
        if (form < 7) {
            return new Node(NAMES[form - 4]);
        }
        Node joined = new Node(form < 10 ? "plus" : "minus");
        joined.parts.add(new Node(NAMES[form < 10 ? form - 7 : form - 10]));
        joined.parts.add(new Node("1"));
        return joined;
    }

    private int assigned(Statement s, int state) {
        int variable = target(s);
        if (variable < 0) {
            return state;
        }
        int[] values = {state % 4, state / 4 % 4, state / 16};
        values[variable] = expression(s).value(state);
        return values[0] + 4 * values[1] + 16 * values[2];
    }

    static long set(Node condition) {
        long set = 0;
        for (int state = 0; state < 64; state++) {
            if (condition.holds(state)) {
                set |= 1L << state;
            }
        }
        return set;
    }

    static boolean in(long set, int state) {
        return (set >> state & 1) == 1;
    }

    Run run(int state) {
        return new Run(state, row);
    }

    long needAhead() {
        return ahead(row, 0, set(now.after));
    }

    private long ahead(List<Statement> inRow, int index, long behindRow) {
        if (index == inRow.size()) {
            return behindRow;
        }
        Statement s = inRow.get(index);
        long behind = ahead(inRow, index + 1, behindRow);
        s.needBehind = behind;
        s.need = 0;
        if (s.kind == 2) {
            s.need = set(now.keep.get(s.number));
            ahead(s.first, 0, s.need);
            return s.need;
        }
        long first = ahead(s.first, 0, behind);
        long second = ahead(s.second, 0, behind);
        for (int state = 0; state < 64; state++) {
            boolean there = s.kind == 1
                    ? in(s.part.holds(state) ? first : second, state)
                    : in(behind, assigned(s, state));
            s.need |= there ? 1L << state : 0;
        }
        return s.need;
    }

    /** The needs as conditions, in the statements; null where they have more than 200 nodes. */
    void write() {
        written(row, 0, now.after);
    }

    private Node written(List<Statement> inRow, int index, Node behindRow) {
        if (index == inRow.size()) {
            return behindRow;
        }
        Statement s = inRow.get(index);
        Node behind = written(inRow, index + 1, behindRow);
        if (s.kind == 2) {
            s.written = now.keep.get(s.number);
            written(s.first, 0, s.written);
        } else if (s.kind == 1) {
            Node first = written(s.first, 0, behind);
            Node second = written(s.second, 0, behind);
            s.written = first == null || second == null ? null : branch(s.part, first, second);
        } else {
            s.written = behind == null || target(s) < 0 ? behind : behind.swapped(target(s), expression(s));
        }
        return s.written;
    }

    private static Node branch(Node condition, Node first, Node second) {
        Node not = joined("not", condition, null);
        Node both = joined("or", joined("and", condition, first), joined("and", not, second));
        return both.nodes() > 200 ? null : both;
    }

    private static Node joined(String word, Node first, Node second) {
        Node node = new Node(word);
        node.parts.add(first);
        if (second != null) {
            node.parts.add(second);
        }
        return node;
    }

    List<Long> failing() {
        List<Long> failing = new ArrayList<>();
        failing.add(set(now.before) & ~needAhead());
        for (Statement loop : loops) {
            long kept = set(now.keep.get(loop.number));
            long condition = set(loop.part);
            long rowNeed = loop.first.isEmpty() ? kept : loop.first.get(0).need;
            failing.add(kept & condition & ~rowNeed);
            failing.add(kept & ~condition & ~loop.needBehind);
            long notLess = 0;
            Node less = now.less.get(loop.number);
            for (int state = 0; state < 64; state++) {
                int end = new Run(state, loop.first).end;
                if (in(kept & condition, state) && (end < 0 || less.value(end) >= less.value(state))) {
                    notLess |= 1L << state;
                }
            }
            failing.add(notLess);
        }
        return failing;
    }

    boolean proven() {
        for (long set : failing()) {
            if (set != 0) {
                return false;
            }
        }
        return true;
    }

    long safe(Statement loop) {
        needAhead();
        long safe = 0;
        for (int state = 0; state < 64; state++) {
            int end = new Run(state, List.of(loop)).end;
            if (end >= 0 && in(loop.needBehind, end)) {
                safe |= 1L << state;
            }
        }
        return safe;
    }

    long wrong() {
        long wrong = 0;
        for (int state = 0; state < 64; state++) {
            int end = now.before.holds(state) ? run(state).end : 0;
            if (now.before.holds(state) && (end < 0 || !now.after.holds(end))) {
                wrong |= 1L << state;
            }
        }
        return wrong;
    }

    int least(int hole, boolean shallProve) {
        Changeable former = now;
        int found = -1;
        for (int filling = 38; filling >= 0; filling--) {
            now = former.copy();
            now.filling.set(hole, filling);
            if (shallProve ? proven() : wrong() == 0) {
                found = filling;
            }
        }
        now = former;
        return found;
    }
}
