import java.util.ArrayList;
import java.util.List;

/**
 * A second reading of the document: the module is a tree, runs walk the tree, and the ranges are
 * found by walking the tree with sets of bounds until no walk changes anything.
 */
final class Oracle {
    static final int NONE = -3;

    static final class Fault extends RuntimeException {
        private static final long serialVersionUID = 1L;
        final int place;

        Fault(int place) {
            super(null, null, false, false);
            this.place = place;
        }
    }

    static final class Stop extends RuntimeException {
        private static final long serialVersionUID = 1L;
        final int code;
        final int at;

        Stop(int code, int at) {
            super(null, null, false, false);
            this.code = code;
            this.at = at;
        }
    }

    static final class Node {
        int index;
        int op;
        int argument;
        List<Node> body;
        List<Node> other;
        Node elseNode;
        Node endNode;
        State before;
        State afterAll;
    }

    static final class Function {
        int parameters;
        int locals;
        int results;
        int first;
        List<Node> body = new ArrayList<>();
        Node end;
        Bounds[] given;
        Bounds result;
        boolean canEnd;
    }

    static final class Bounds {
        final int low;
        final int high;
        final boolean taint;

        Bounds(int low, int high, boolean taint) {
            this.low = low;
            this.high = high;
            this.taint = taint;
        }

        Bounds with(Bounds o) {
            if (o == null) {
                return this;
            }
            return new Bounds(Math.min(low, o.low), Math.max(high, o.high), taint || o.taint);
        }

        Bounds tainted(boolean also) {
            return new Bounds(low, high, taint || also);
        }

        boolean has(int v) {
            return low <= v && v <= high;
        }

        int code() {
            return low + 64 * high + (taint ? 4096 : 0);
        }
    }

    static final class State {
        final List<Bounds> stack = new ArrayList<>();
        final List<Bounds> locals = new ArrayList<>();

        State copy() {
            State s = new State();
            s.stack.addAll(stack);
            s.locals.addAll(locals);
            return s;
        }

        Bounds pop() {
            return stack.remove(stack.size() - 1);
        }

        String text() {
            StringBuilder b = new StringBuilder();
            for (Bounds x : stack) {
                b.append(x.code()).append(' ');
            }
            b.append('|');
            for (Bounds x : locals) {
                b.append(x.code()).append(' ');
            }
            return b.toString();
        }
    }

    final int answer;
    final int place;
    final List<Function> functions = new ArrayList<>();
    final List<Node> nodes = new ArrayList<>();
    final List<Integer> owners = new ArrayList<>();
    final Bounds[] cells = new Bounds[16];
    private final List<Integer> bytes;
    private int at;
    private boolean changed;

    Oracle(List<Integer> bytes) {
        this.bytes = bytes;
        int answer;
        int place = NONE;
        try {
            parse();
            try {
                for (Function f : functions) {
                    validate(f);
                }
                foretell();
                answer = nodes.size();
            } catch (Fault f) {
                answer = -2;
                place = f.place;
            }
        } catch (Fault f) {
            answer = -1;
            place = f.place;
        }
        this.answer = answer;
        this.place = place;
    }

    // ---- reading

    private int peek() {
        if (at == bytes.size()) {
            throw new Fault(at);
        }
        return bytes.get(at);
    }

    private int number(int low, int high) {
        int v = peek();
        at++;
        if (v > 31) {
            int s = peek();
            if (s != 0 && s != 1) {
                throw new Fault(at);
            }
            at++;
            v = (v - 32) + 32 * s;
        }
        if (v < low || v > high) {
            throw new Fault(at - 1);
        }
        return v;
    }

    private void parse() {
        int count = number(1, 3);
        for (int i = 0; i < count; i++) {
            Function f = new Function();
            f.parameters = number(0, 2);
            f.locals = number(0, 2);
            f.results = number(0, 1);
            f.first = nodes.size();
            f.end = sequence(f.body, i, null);
            functions.add(f);
        }
        if (at != bytes.size()) {
            throw new Fault(at);
        }
    }

    /** Reads up to an END or (in the first part of an IF) an ELSE, which is answered. */
    private Node sequence(List<Node> into, int owner, Node openIf) {
        while (true) {
            int op = peek();
            if (op > 28 || op == 4 && openIf == null) {
                throw new Fault(at);
            }
            at++;
            Node n = new Node();
            n.op = op;
            if (op >= 1 && op <= 3) {
                n.argument = number(0, 1);
            } else if ("6 7 9 12 13 14 15 16 17".matches("(.* |)" + op + "( .*|)")) {
                n.argument = number(0, 63);
            }
            n.index = nodes.size();
            nodes.add(n);
            owners.add(owner);
            if (op == 4 || op == 5) {
                return n;
            }
            into.add(n);
            if (op >= 1 && op <= 3) {
                n.body = new ArrayList<>();
                Node last = sequence(n.body, owner, op == 3 ? n : null);
                if (last.op == 4) {
                    n.elseNode = last;
                    n.other = new ArrayList<>();
                    last = sequence(n.other, owner, null);
                }
                n.endNode = last;
            }
        }
    }

    // ---- checking: heights above the frame, by recursion over the tree

    private static final int[][] EFFECT = new int[29][];

    static {
        int[][] rows = {{10, 1, 0}, {11, 3, 1}, {12, 0, 1}, {13, 1, 0}, {14, 1, 1}, {15, 1, 1}, {16, 2, 0},
            {17, 0, 1}, {18, 1, 1}, {27, 0, 1}, {28, 1, 0}};
        for (int[] row : rows) {
            EFFECT[row[0]] = row;
        }
        for (int op = 19; op <= 26; op++) {
            EFFECT[op] = new int[] {op, 2, 1};
        }
    }

    private static final class Level {
        final int base;
        final int needs;
        final int results;
        final Level outer;
        int above;
        boolean dead;

        Level(int base, int needs, int results, Level outer) {
            this.base = base;
            this.needs = needs;
            this.results = results;
            this.outer = outer;
        }

        void take(int n, int where) {
            if (n > above && !dead) {
                throw new Fault(where);
            }
            above = Math.max(0, above - n);
        }

        void give(int n, int where) {
            above += n;
            if (base + above > 10) {
                throw new Fault(where);
            }
        }

        void close(int where) {
            take(results, where);
            if (above != 0) {
                throw new Fault(where);
            }
        }

        void kill() {
            dead = true;
            above = 0;
        }
    }

    private void validate(Function f) {
        Level level = new Level(0, f.results, f.results, null);
        validate(f, f.body, level);
        level.close(f.end.index);
    }

    private void validate(Function f, List<Node> list, Level level) {
        for (Node n : list) {
            validate(f, n, level);
        }
    }

    private void validate(Function f, Node n, Level level) {
        int k = n.index;
        switch (n.op) {
            case 0:
                level.kill();
                break;
            case 1:
            case 2:
            case 3:
                validateFrame(f, n, level);
                break;
            case 6:
            case 7:
                if (n.op == 7) {
                    level.take(1, k);
                }
                Level goal = level;
                for (int i = 0; i < n.argument && goal != null; i++) {
                    goal = goal.outer;
                }
                if (goal == null) {
                    throw new Fault(k);
                }
                level.take(goal.needs, k);
                if (n.op == 6) {
                    level.kill();
                } else {
                    level.give(goal.needs, k);
                }
                break;
            case 8:
                level.take(f.results, k);
                level.kill();
                break;
            case 9:
                if (n.argument >= functions.size()) {
                    throw new Fault(k);
                }
                level.take(functions.get(n.argument).parameters, k);
                level.give(functions.get(n.argument).results, k);
                break;
            default:
                if (n.op >= 12 && n.op <= 14 && n.argument >= f.parameters + f.locals) {
                    throw new Fault(k);
                }
                level.take(EFFECT[n.op][1], k);
                level.give(EFFECT[n.op][2], k);
                break;
        }
    }

    private void validateFrame(Function f, Node n, Level level) {
        if (n.op == 3) {
            level.take(1, n.index);
        }
        Level inner = new Level(level.base + level.above, n.op == 2 ? 0 : n.argument, n.argument, level);
        validate(f, n.body, inner);
        if (n.elseNode != null) {
            inner.close(n.elseNode.index);
            inner.dead = false;
            validate(f, n.other, inner);
        }
        inner.close(n.endNode.index);
        if (n.op == 3 && n.argument == 1 && n.elseNode == null) {
            throw new Fault(n.endNode.index);
        }
        level.give(n.argument, n.endNode.index);
    }

    // ---- running: a walk over the tree; a walk answers how many frames are still to be left, -1 for none

    private static final int FALL = -1;
    private static final int OUT = 1000;
    private int limit;
    int steps;
    int stopped;
    int stoppedAt;
    int result;
    private List<Integer> inputs;
    List<Integer> outputs = new ArrayList<>();
    int[] memory = new int[16];

    void run(int x, int y, int limit, List<Integer> inputs) {
        this.limit = Math.min(2000, Math.max(0, limit));
        this.inputs = new ArrayList<>(inputs);
        steps = 0;
        outputs = new ArrayList<>();
        memory = new int[16];
        result = NONE;
        stoppedAt = NONE;
        stopped = 0;
        int[] given = {((x % 64) + 64) % 64, ((y % 64) + 64) % 64};
        try {
            List<Integer> results = invoke(functions.get(0), given, 0);
            if (!results.isEmpty()) {
                result = results.get(0);
            }
        } catch (Stop s) {
            stopped = s.code;
            stoppedAt = s.at;
        }
    }

    private void tick(Node n) {
        if (steps >= limit) {
            throw new Stop(5, n.index);
        }
        steps++;
    }

    private List<Integer> invoke(Function f, int[] given, int depth) {
        int[] locals = new int[f.parameters + f.locals];
        System.arraycopy(given, 0, locals, 0, f.parameters);
        List<Integer> stack = new ArrayList<>();
        int left = walk(f, f.body, stack, locals, depth);
        if (left == FALL) {
            tick(f.end);
        }
        return new ArrayList<>(stack.subList(stack.size() - f.results, stack.size()));
    }

    private int walk(Function f, List<Node> list, List<Integer> stack, int[] locals, int depth) {
        for (Node n : list) {
            tick(n);
            int left = n.body != null ? frame(f, n, stack, locals, depth) : act(n, stack, locals, depth);
            if (left != FALL) {
                return left;
            }
        }
        return FALL;
    }

    private int frame(Function f, Node n, List<Integer> stack, int[] locals, int depth) {
        boolean second = n.op == 3 && pop(stack) == 0;
        int base = stack.size();
        if (second && n.other == null) {
            return FALL;
        }
        while (true) {
            int left = walk(f, second ? n.other : n.body, stack, locals, depth);
            if (left == FALL) {
                tick(n.elseNode != null && !second ? n.elseNode : n.endNode);
                return FALL;
            }
            if (left > 0) {
                return left == OUT ? OUT : left - 1;
            }
            int needs = n.op == 2 ? 0 : n.argument;
            while (stack.size() > base + needs) {
                stack.remove(base);
            }
            if (n.op != 2) {
                return FALL;
            }
        }
    }

    private static int pop(List<Integer> stack) {
        return stack.remove(stack.size() - 1);
    }

    private int act(Node n, List<Integer> stack, int[] locals, int depth) {
        switch (n.op) {
            case 0:
                throw new Stop(1, n.index);
            case 6:
                return n.argument;
            case 7:
                return pop(stack) != 0 ? n.argument : FALL;
            case 8:
                return OUT;
            case 9:
                if (depth == 6) {
                    throw new Stop(4, n.index);
                }
                Function f = functions.get(n.argument);
                int[] given = new int[2];
                for (int i = f.parameters - 1; i >= 0; i--) {
                    given[i] = pop(stack);
                }
                stack.addAll(invoke(f, given, depth + 1));
                return FALL;
            case 10:
                pop(stack);
                return FALL;
            case 11:
                int c = pop(stack);
                int b = pop(stack);
                int a = pop(stack);
                stack.add(c == 0 ? b : a);
                return FALL;
            case 12:
                stack.add(locals[n.argument]);
                return FALL;
            case 13:
                locals[n.argument] = pop(stack);
                return FALL;
            case 14:
                locals[n.argument] = stack.get(stack.size() - 1);
                return FALL;
            case 15:
                stack.add(memory[cell(pop(stack), n)]);
                return FALL;
            case 16:
                int value = pop(stack);
                memory[cell(pop(stack), n)] = value;
                return FALL;
            case 17:
                stack.add(n.argument);
                return FALL;
            case 18:
                stack.add(pop(stack) == 0 ? 1 : 0);
                return FALL;
            case 27:
                stack.add(inputs.isEmpty() ? 0 : inputs.remove(0));
                return FALL;
            case 28:
                outputs.add(pop(stack));
                return FALL;
            default:
                int q = pop(stack);
                int p = pop(stack);
                if (q == 0 && (n.op == 24 || n.op == 25)) {
                    throw new Stop(3, n.index);
                }
                stack.add(apply(n.op, p, q));
                return FALL;
        }
    }

    private int cell(int address, Node n) {
        if (address + n.argument > 15) {
            throw new Stop(2, n.index);
        }
        return address + n.argument;
    }

    static int apply(int op, int p, int q) {
        switch (op) {
            case 19:
                return p == q ? 1 : 0;
            case 20:
                return p < q ? 1 : 0;
            case 21:
                return (p + q) & 63;
            case 22:
                return (p - q) & 63;
            case 23:
                return (p * q) & 63;
            case 24:
                return p / q;
            case 25:
                return p % q;
            case 26:
                return p & q;
            default:
                throw new IllegalArgumentException();
        }
    }

    // ---- foretelling

    private static final Bounds ZERO = new Bounds(0, 0, false);

    private void foretell() {
        for (int c = 0; c < 16; c++) {
            cells[c] = ZERO;
        }
        for (Function f : functions) {
            f.given = new Bounds[f.parameters];
        }
        Function main = functions.get(0);
        for (int i = 0; i < main.parameters; i++) {
            main.given[i] = new Bounds(0, 63, false);
        }
        boolean[] called = new boolean[functions.size()];
        called[0] = true;
        do {
            changed = false;
            for (int i = 0; i < functions.size(); i++) {
                if (called[i]) {
                    walkFunction(functions.get(i));
                }
            }
            for (Node n : nodes) {
                if (n.op == 9 && n.before != null && !called[n.argument]) {
                    called[n.argument] = true;
                    changed = true;
                }
            }
        } while (changed);
    }

    private void walkFunction(Function f) {
        State start = new State();
        for (Bounds b : f.given) {
            start.locals.add(b);
        }
        for (int i = 0; i < f.locals; i++) {
            start.locals.add(ZERO);
        }
        State s = tell(f, f.body, start, new ArrayList<>());
        s = meet(f.end, s);
        if (s != null) {
            end(f, s);
        }
    }

    private void end(Function f, State s) {
        if (!f.canEnd) {
            f.canEnd = true;
            changed = true;
        }
        if (f.results == 1) {
            f.result = grown(f.result, s.stack.get(s.stack.size() - 1));
        }
    }

    private Bounds grown(Bounds old, Bounds more) {
        Bounds now = more.with(old);
        if (old == null || old.code() != now.code()) {
            changed = true;
        }
        return now;
    }

    private State joined(State old, State more) {
        if (more == null) {
            return old;
        }
        if (old == null) {
            changed = true;
            return more.copy();
        }
        State s = new State();
        if (old.stack.size() != more.stack.size()) {
            throw new IllegalStateException("heights");
        }
        for (int i = 0; i < old.stack.size(); i++) {
            s.stack.add(old.stack.get(i).with(more.stack.get(i)));
        }
        for (int i = 0; i < old.locals.size(); i++) {
            s.locals.add(old.locals.get(i).with(more.locals.get(i)));
        }
        if (!s.text().equals(old.text())) {
            changed = true;
        }
        return s;
    }

    private State meet(Node n, State s) {
        n.before = joined(n.before, s);
        return n.before == null ? null : n.before.copy();
    }

    /** What flows in behind the END of a frame by branches, kept with the frame's base. */
    private static final class Target {
        final Node node;
        final int base;

        Target(Node node, int base) {
            this.node = node;
            this.base = base;
        }
    }

    private State tell(Function f, List<Node> list, State s, List<Target> frames) {
        for (Node n : list) {
            s = meet(n, s);
            if (s == null && n.body == null) {
                continue;
            }
            s = n.body != null ? tellFrame(f, n, s, frames) : tellPlain(f, n, s, frames);
        }
        return s;
    }

    /** Keeps what the frame was given by branches in afterAll: for a LOOP at its beginning, else behind its END. */
    private State tellFrame(Function f, Node n, State s, List<Target> frames) {
        if (s == null) {
            return null;
        }
        boolean first = true;
        boolean second = false;
        if (n.op == 3) {
            Bounds c = s.pop();
            first = c.high > 0;
            second = c.has(0);
        }
        frames.add(new Target(n, s.stack.size()));
        State in = s;
        if (n.op == 2 && n.afterAll != null) {
            State both = s.copy();
            for (int i = 0; i < both.stack.size(); i++) {
                both.stack.set(i, both.stack.get(i).with(n.afterAll.stack.get(i)));
            }
            for (int i = 0; i < both.locals.size(); i++) {
                both.locals.set(i, both.locals.get(i).with(n.afterAll.locals.get(i)));
            }
            in = both;
        }
        State out = first ? tell(f, n.body, in, frames) : null;
        State behind = null;
        if (n.elseNode != null) {
            State above = meet(n.elseNode, out);
            State below = second ? tell(f, n.other, s, frames) : null;
            behind = above;
            out = below;
        } else if (second) {
            behind = s;
        }
        frames.remove(frames.size() - 1);
        out = meet(n.endNode, out);
        return either(either(out, behind), n.op == 2 ? null : n.afterAll);
    }

    private static State either(State a, State b) {
        if (a == null || b == null) {
            return a == null ? (b == null ? null : b.copy()) : a;
        }
        State s = new State();
        for (int i = 0; i < a.stack.size(); i++) {
            s.stack.add(a.stack.get(i).with(b.stack.get(i)));
        }
        for (int i = 0; i < a.locals.size(); i++) {
            s.locals.add(a.locals.get(i).with(b.locals.get(i)));
        }
        return s;
    }

    private void branch(Function f, int n, State s, List<Target> frames) {
        if (n >= frames.size()) {
            end(f, s);
            return;
        }
        Target t = frames.get(frames.size() - 1 - n);
        int needs = t.node.op == 2 ? 0 : t.node.argument;
        State cut = s.copy();
        while (cut.stack.size() > t.base + needs) {
            cut.stack.remove(t.base);
        }
        t.node.afterAll = joined(t.node.afterAll, cut);
    }

    private State tellPlain(Function f, Node n, State s, List<Target> frames) {
        switch (n.op) {
            case 0:
                return null;
            case 6:
                branch(f, n.argument, s, frames);
                return null;
            case 7:
                Bounds c = s.pop();
                if (c.high > 0) {
                    branch(f, n.argument, s, frames);
                }
                return c.has(0) ? s : null;
            case 8:
                end(f, s);
                return null;
            case 9:
                return tellCall(functions.get(n.argument), s);
            case 15:
                return tellLoad(n, s);
            case 16:
                return tellStore(n, s);
            default:
                return tellOperation(n, s);
        }
    }

    private State tellCall(Function f, State s) {
        for (int i = f.parameters - 1; i >= 0; i--) {
            f.given[i] = grown(f.given[i], s.pop());
        }
        if (f.results == 1) {
            if (f.result == null) {
                return null;
            }
            s.stack.add(f.result);
            return s;
        }
        return f.canEnd ? s : null;
    }

    private State tellLoad(Node n, State s) {
        Bounds a = s.pop();
        Bounds found = null;
        for (int c = 0; c < 16; c++) {
            if (a.has(c - n.argument)) {
                found = cells[c].with(found);
            }
        }
        if (found == null) {
            return null;
        }
        s.stack.add(found.tainted(a.taint));
        return s;
    }

    private State tellStore(Node n, State s) {
        Bounds v = s.pop();
        Bounds a = s.pop();
        boolean any = false;
        for (int c = 0; c < 16; c++) {
            if (a.has(c - n.argument)) {
                any = true;
                cells[c] = grown(cells[c], v.tainted(a.taint));
            }
        }
        return any ? s : null;
    }

    private State tellOperation(Node n, State s) {
        switch (n.op) {
            case 10:
            case 28:
                s.pop();
                return s;
            case 11:
                Bounds c = s.pop();
                Bounds b = s.pop();
                Bounds a = s.pop();
                Bounds picked = !c.has(0) ? a : c.high == 0 ? b : a.with(b);
                s.stack.add(picked.tainted(c.taint));
                return s;
            case 12:
                s.stack.add(s.locals.get(n.argument));
                return s;
            case 13:
                s.locals.set(n.argument, s.pop());
                return s;
            case 14:
                s.locals.set(n.argument, s.stack.get(s.stack.size() - 1));
                return s;
            case 17:
                s.stack.add(new Bounds(n.argument, n.argument, false));
                return s;
            case 18:
                Bounds v = s.pop();
                s.stack.add(new Bounds(v.high > 0 ? 0 : 1, v.has(0) ? 1 : 0, v.taint));
                return s;
            case 27:
                s.stack.add(new Bounds(0, 63, true));
                return s;
            default:
                Bounds q = s.pop();
                Bounds p = s.pop();
                Bounds tried = tried(n.op, p, q);
                if (tried == null) {
                    return null;
                }
                s.stack.add(tried);
                return s;
        }
    }

    static Bounds tried(int op, Bounds p, Bounds q) {
        int low = 64;
        int high = -1;
        for (int y = q.low; y <= q.high; y++) {
            if (y == 0 && (op == 24 || op == 25)) {
                continue;
            }
            for (int x = p.low; x <= p.high; x++) {
                int v = apply(op, x, y);
                low = Math.min(low, v);
                high = Math.max(high, v);
            }
        }
        return high < 0 ? null : new Bounds(low, high, p.taint || q.taint);
    }

    // ---- what the face asks

    int instruction(int k, int what) {
        if (k < 0 || k >= nodes.size()) {
            return NONE;
        }
        Node n = nodes.get(k);
        switch (what) {
            case 0:
                return n.op;
            case 1:
                return n.argument;
            case 2:
                return n.before == null ? 0 : 1;
            case 3:
                return flags(n);
            case 4:
                for (Node m : nodes) {
                    if (m.body != null && (m == n || m.elseNode == n)) {
                        return m.endNode.index + 1;
                    }
                }
                return NONE;
            case 5:
                return n.before == null ? NONE : n.before.stack.size();
            default:
                return NONE;
        }
    }

    private int flags(Node n) {
        if (n.before == null) {
            return 0;
        }
        List<Bounds> s = n.before.stack;
        int flags = n.op == 0 ? 1 : 0;
        if (n.op == 15 && s.get(s.size() - 1).high + n.argument > 15) {
            flags += 2;
        }
        if (n.op == 16 && s.get(s.size() - 2).high + n.argument > 15) {
            flags += 2;
        }
        if ((n.op == 24 || n.op == 25) && s.get(s.size() - 1).has(0)) {
            flags += 4;
        }
        if (n.op == 28 && s.get(s.size() - 1).taint) {
            flags += 8;
        }
        return flags;
    }

    int operand(int k, int i) {
        if (k < 0 || k >= nodes.size() || nodes.get(k).before == null) {
            return NONE;
        }
        List<Bounds> s = nodes.get(k).before.stack;
        return i < 0 || i >= s.size() ? NONE : s.get(s.size() - 1 - i).code();
    }

    int local(int k, int i) {
        if (k < 0 || k >= nodes.size() || nodes.get(k).before == null) {
            return NONE;
        }
        List<Bounds> s = nodes.get(k).before.locals;
        return i < 0 || i >= s.size() ? NONE : s.get(i).code();
    }

    int cell(int k) {
        return k < 0 || k > 15 ? NONE : cells[k].code();
    }

    int function(int f, int what) {
        if (f < 0 || f >= functions.size()) {
            return NONE;
        }
        Function g = functions.get(f);
        switch (what) {
            case 0:
                return g.first;
            case 1:
                return g.parameters;
            case 2:
                return g.locals;
            case 3:
                return g.results;
            case 4:
                return g.result == null ? NONE : g.result.code();
            case 5:
                return g.canEnd ? 1 : 0;
            default:
                return NONE;
        }
    }
}
