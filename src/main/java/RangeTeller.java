import java.util.Arrays;

/** A reader, checker, runner and foreteller of small stack programs. */
public final class RangeTeller {
    public static final int MALFORMED = -1;
    public static final int INVALID = -2;
    public static final int NONE = -3;

    private static final int VALUES = 64;
    private static final int CELLS = 16;
    private static final int MOST_BYTES = 100;
    private static final int MOST_FUNCTIONS = 3;
    private static final int MOST_PARAMETERS = 2;
    private static final int MOST_MORE_LOCALS = 2;
    private static final int MOST_LOCALS = 4;
    private static final int MOST_OPERANDS = 10;
    private static final int MOST_INPUTS = 12;
    private static final int MOST_OUTPUTS = 20;
    private static final int MOST_STEPS = 2000;
    private static final int MOST_CALLS = 6;

    private final Program program;
    private final Reader reader;
    private final Checker checker;
    private final Runner runner;
    private final Foreteller foreteller;
    private boolean loaded;
    private int fault;

    public RangeTeller() {
        Program made = new Program();
        program = made;
        reader = new Reader(made);
        checker = new Checker(made);
        runner = new Runner(made);
        foreteller = new Foreteller(made);
        loaded = false;
        fault = NONE;
    }

    public boolean feed(int b) {
        return reader.append(b);
    }

    public int load() {
        loaded = false;
        runner.forget();
        fault = reader.readModule();
        if (fault != NONE) {
            return MALFORMED;
        }
        fault = checker.firstInvalid();
        if (fault != NONE) {
            return INVALID;
        }
        foreteller.foretell();
        loaded = true;
        return program.size;
    }

    public int place() {
        return fault;
    }

    public int input(int v) {
        return runner.addInput(v);
    }

    public int run(int x, int y, int steps) {
        if (!loaded) {
            return NONE;
        }
        return runner.runWith(x, y, Math.max(0, Math.min(steps, MOST_STEPS)));
    }

    public int outcome(int what) {
        if (!runner.ran) {
            return NONE;
        }
        switch (what) {
            case 0:
                return runner.result;
            case 1:
                return runner.state == Runner.ENDED ? NONE : runner.at;
            case 2:
                return runner.steps;
            case 3:
                return runner.outputCount;
            default:
                return NONE;
        }
    }

    public int output(int k) {
        if (!runner.ran || k < 0 || k >= MOST_OUTPUTS || k >= runner.outputCount) {
            return NONE;
        }
        return runner.outputs[k];
    }

    public int memory(int k) {
        if (!runner.ran || k < 0 || k >= CELLS) {
            return NONE;
        }
        return runner.cells[k];
    }

    public int instruction(int k, int what) {
        if (!isInstruction(k)) {
            return NONE;
        }
        switch (what) {
            case 0:
                return program.ops[k];
            case 1:
                return program.arguments[k];
            case 2:
                return foreteller.reached[k] ? 1 : 0;
            case 3:
                return foreteller.flagsAt(k);
            case 4:
                return program.ends[k] == NONE ? NONE : program.ends[k] + 1;
            case 5:
                return foreteller.reached[k] ? foreteller.heights[k] : NONE;
            default:
                return NONE;
        }
    }

    public int operand(int k, int i) {
        return isInstruction(k) ? foreteller.operandAt(k, i) : NONE;
    }

    public int local(int k, int i) {
        return isInstruction(k) ? foreteller.localAt(k, i) : NONE;
    }

    public int cell(int k) {
        if (!loaded || k < 0 || k >= CELLS) {
            return NONE;
        }
        return foreteller.cells[k];
    }

    public int function(int f, int what) {
        if (!loaded || f < 0 || f >= program.functions) {
            return NONE;
        }
        switch (what) {
            case 0:
                return program.firsts[f];
            case 1:
                return program.parameters[f];
            case 2:
                return program.moreLocals[f];
            case 3:
                return program.results[f];
            case 4:
                return foreteller.results[f];
            case 5:
                return foreteller.canEnd[f] ? 1 : 0;
            default:
                return NONE;
        }
    }

    private boolean isInstruction(int k) {
        return loaded && k >= 0 && k < program.size;
    }

    /** The numbers of the ops, and what is known of an op without its module. */
    private static final class Ops {
        static final int TRAP = 0;
        static final int BLOCK = 1;
        static final int LOOP = 2;
        static final int IF = 3;
        static final int ELSE = 4;
        static final int END = 5;
        static final int BRANCH = 6;
        static final int BRANCH_IF = 7;
        static final int RETURN = 8;
        static final int CALL = 9;
        static final int DROP = 10;
        static final int PICK = 11;
        static final int GET = 12;
        static final int SET = 13;
        static final int TEE = 14;
        static final int LOAD = 15;
        static final int STORE = 16;
        static final int CONST = 17;
        static final int NOT = 18;
        static final int SAME = 19;
        static final int LESS = 20;
        static final int PLUS = 21;
        static final int MINUS = 22;
        static final int TIMES = 23;
        static final int OVER = 24;
        static final int REST = 25;
        static final int BOTH = 26;
        static final int INPUT = 27;
        static final int OUTPUT = 28;

        // The ops before DROP take and give by their frame or function, so their rows stay 0.
        private static final int[] TAKES = {
            0, 0, 0, 0, 0, 0, 0, 0, 0, 0, 1, 3, 0, 1, 1, 1, 2, 0, 1, 2, 2, 2, 2, 2, 2, 2, 2, 0, 1};
        private static final int[] GIVES = {
            0, 0, 0, 0, 0, 0, 0, 0, 0, 0, 0, 1, 1, 0, 1, 1, 0, 1, 1, 1, 1, 1, 1, 1, 1, 1, 1, 1, 0};

        static boolean isOp(int b) {
            return b >= TRAP && b <= OUTPUT;
        }

        static boolean opens(int op) {
            return op == BLOCK || op == LOOP || op == IF;
        }

        static boolean namesLocal(int op) {
            return op == GET || op == SET || op == TEE;
        }

        static boolean hasArgument(int op) {
            return opens(op) || op == BRANCH || op == BRANCH_IF || op == CALL || namesLocal(op)
                || op == LOAD || op == STORE || op == CONST;
        }

        static int taken(int op) {
            return isOp(op) ? TAKES[op] : 0;
        }

        static int given(int op) {
            return isOp(op) ? GIVES[op] : 0;
        }
    }

    /** A module as read, and where its jumps lead as found by the check. */
    private static final class Program {
        /** Stands as the goal of a jump that ends the function. */
        static final int LEAVE = -1;

        final int[] ops = new int[MOST_BYTES];
        final int[] arguments = new int[MOST_BYTES];
        final int[] owners = new int[MOST_BYTES];
        final int[] ends = new int[MOST_BYTES];
        final int[] elses = new int[MOST_BYTES];
        final int[] goals = new int[MOST_BYTES];
        final int[] bases = new int[MOST_BYTES];
        final int[] kept = new int[MOST_BYTES];
        final int[] firsts = new int[MOST_FUNCTIONS];
        final int[] parameters = new int[MOST_FUNCTIONS];
        final int[] moreLocals = new int[MOST_FUNCTIONS];
        final int[] results = new int[MOST_FUNCTIONS];
        int size;
        int functions;

        void clear() {
            size = 0;
            functions = 0;
        }

        void addFunction(int parameterCount, int moreLocalCount, int resultCount) {
            firsts[functions] = size;
            parameters[functions] = parameterCount;
            moreLocals[functions] = moreLocalCount;
            results[functions] = resultCount;
            functions++;
        }

        /** Adds to the latest function and answers the number of the new instruction. */
        int addInstruction(int op, int argument) {
            int k = size;
            ops[k] = op;
            arguments[k] = argument;
            owners[k] = functions - 1;
            ends[k] = NONE;
            elses[k] = NONE;
            size++;
            return k;
        }

        void close(int opener, int end) {
            ends[opener] = end;
            if (elses[opener] != NONE) {
                ends[elses[opener]] = end;
            }
        }

        int localCount(int f) {
            return parameters[f] + moreLocals[f];
        }

        /** Where an IF goes on when its condition is 0. */
        int otherwise(int k) {
            return (elses[k] == NONE ? ends[k] : elses[k]) + 1;
        }

        void setJump(int k, int goal, int base, int keeps) {
            goals[k] = goal;
            bases[k] = base;
            kept[k] = keeps;
        }
    }

    /** Gathers bytes and reads them as a module. */
    private static final class Reader {
        private static final int SHORT = 32;

        private final Program program;
        private final int[] bytes = new int[MOST_BYTES];
        private final int[] opened = new int[MOST_BYTES];
        private int length;
        private int at;
        private int depth;
        private int fault;

        Reader(Program program) {
            this.program = program;
        }

        boolean append(int b) {
            if (b < 0 || b >= VALUES || length >= MOST_BYTES) {
                return false;
            }
            bytes[length] = b;
            length++;
            return true;
        }

        /** Uses up the bytes; answers the place of the fault, NONE if there is none. */
        int readModule() {
            program.clear();
            at = 0;
            fault = NONE;
            int count = readNumber(1, MOST_FUNCTIONS);
            for (int f = 0; f < count && fault == NONE; f++) {
                readFunction();
            }
            if (fault == NONE && at < length) {
                fault = at;
            }
            length = 0;
            return fault;
        }

        private void readFunction() {
            int parameters = readNumber(0, MOST_PARAMETERS);
            int moreLocals = readNumber(0, MOST_MORE_LOCALS);
            int results = readNumber(0, 1);
            if (fault != NONE) {
                return;
            }
            program.addFunction(parameters, moreLocals, results);
            depth = 0;
            boolean ended = false;
            // Each instruction uses up a byte, so the bound is never what ends this loop.
            for (int n = 0; n < MOST_BYTES && !ended && fault == NONE; n++) {
                ended = readInstruction();
            }
        }

        /** Answers whether it was the END of the function. */
        private boolean readInstruction() {
            if (at >= length || !Ops.isOp(bytes[at]) || (bytes[at] == Ops.ELSE && !elseFits())) {
                fault = at;
                return false;
            }
            int op = bytes[at];
            at++;
            int argument = 0;
            if (Ops.hasArgument(op)) {
                argument = readNumber(0, Ops.opens(op) ? 1 : VALUES - 1);
            }
            if (fault != NONE) {
                return false;
            }
            return nest(op, program.addInstruction(op, argument));
        }

        private boolean elseFits() {
            if (depth == 0) {
                return false;
            }
            int opener = opened[depth - 1];
            return program.ops[opener] == Ops.IF && program.elses[opener] == NONE;
        }

        private boolean nest(int op, int k) {
            if (Ops.opens(op)) {
                opened[depth] = k;
                depth++;
            } else if (op == Ops.ELSE && depth > 0) {
                program.elses[opened[depth - 1]] = k;
            } else if (op == Ops.END) {
                if (depth == 0) {
                    return true;
                }
                depth--;
                program.close(opened[depth], k);
            }
            return false;
        }

        /** Answers 0 once there is a fault, so that the first fault's place stays. */
        private int readNumber(int least, int greatest) {
            if (fault != NONE) {
                return 0;
            }
            if (at >= length) {
                fault = at;
                return 0;
            }
            int number = bytes[at];
            at++;
            if (number >= SHORT) {
                if (at >= length || bytes[at] > 1) {
                    fault = at;
                    return 0;
                }
                number += SHORT * (bytes[at] - 1);
                at++;
            }
            if (number < least || number > greatest) {
                fault = at - 1;
                return 0;
            }
            return number;
        }
    }

    /** Checks a module that was read, and settles where its jumps lead. */
    private static final class Checker {
        private final Program program;
        private final int[] openers = new int[MOST_BYTES + 1];
        private final int[] bases = new int[MOST_BYTES + 1];
        private final boolean[] live = new boolean[MOST_BYTES + 1];
        private int latest;
        private int height;
        private boolean wrong;

        Checker(Program program) {
            this.program = program;
        }

        /** Answers the first instruction that isn't as it must be, NONE if all are. */
        int firstInvalid() {
            wrong = false;
            for (int k = 0; k < program.size; k++) {
                if (k == program.firsts[program.owners[k]]) {
                    latest = -1;
                    height = 0;
                    open(NONE);
                }
                checkInstruction(k);
                if (wrong) {
                    return k;
                }
            }
            return NONE;
        }

        private void checkInstruction(int k) {
            int op = program.ops[k];
            int results = program.results[program.owners[k]];
            switch (op) {
                case Ops.TRAP:
                    deaden();
                    break;
                case Ops.BLOCK:
                case Ops.LOOP:
                    open(k);
                    break;
                case Ops.IF:
                    take(1);
                    open(k);
                    program.setJump(k, program.otherwise(k), height, 0);
                    break;
                case Ops.ELSE:
                    checkElse(k);
                    break;
                case Ops.END:
                    checkEnd(k, results);
                    break;
                case Ops.BRANCH:
                    checkBranch(k, results);
                    deaden();
                    break;
                case Ops.BRANCH_IF:
                    take(1);
                    checkBranch(k, results);
                    break;
                case Ops.RETURN:
                    take(results);
                    deaden();
                    program.setJump(k, Program.LEAVE, 0, results);
                    break;
                case Ops.CALL:
                    checkCall(program.arguments[k]);
                    break;
                default:
                    checkPlain(k, op);
                    break;
            }
        }

        private void checkElse(int k) {
            int opener = openers[latest];
            int r = program.arguments[opener];
            take(r);
            mustBeAtBase();
            live[latest] = true;
            program.setJump(k, program.ends[opener] + 1, bases[latest], r);
        }

        private void checkEnd(int k, int results) {
            int opener = openers[latest];
            int base = bases[latest];
            int r = opener == NONE ? results : program.arguments[opener];
            take(r);
            mustBeAtBase();
            latest--;
            if (opener == NONE) {
                program.setJump(k, Program.LEAVE, 0, r);
                return;
            }
            if (program.ops[opener] == Ops.IF && r == 1 && program.elses[opener] == NONE) {
                wrong = true;
            }
            give(r);
            program.setJump(k, k + 1, base, r);
        }

        /** What the branch takes is given again: a BRANCH is deadened behind this anyway. */
        private void checkBranch(int k, int results) {
            int frame = latest - program.arguments[k];
            if (frame < 0) {
                wrong = true;
                return;
            }
            int opener = openers[frame];
            int needs = results;
            int goal = Program.LEAVE;
            if (opener != NONE) {
                boolean loops = program.ops[opener] == Ops.LOOP;
                needs = loops ? 0 : program.arguments[opener];
                goal = (loops ? opener : program.ends[opener]) + 1;
            }
            take(needs);
            if (program.ops[k] == Ops.BRANCH_IF) {
                give(needs);
            }
            program.setJump(k, goal, bases[frame], needs);
        }

        private void checkCall(int f) {
            if (f >= program.functions) {
                wrong = true;
                return;
            }
            take(program.parameters[f]);
            give(program.results[f]);
        }

        private void checkPlain(int k, int op) {
            if (Ops.namesLocal(op) && program.arguments[k] >= program.localCount(program.owners[k])) {
                wrong = true;
            }
            take(Ops.taken(op));
            give(Ops.given(op));
        }

        private void open(int opener) {
            latest++;
            openers[latest] = opener;
            bases[latest] = height;
            live[latest] = true;
        }

        private void deaden() {
            live[latest] = false;
            height = bases[latest];
        }

        private void mustBeAtBase() {
            if (height != bases[latest]) {
                wrong = true;
            }
        }

        private void take(int count) {
            for (int i = 0; i < count; i++) {
                if (height > bases[latest]) {
                    height--;
                } else if (live[latest]) {
                    wrong = true;
                }
            }
        }

        private void give(int count) {
            height += count;
            if (height > MOST_OPERANDS) {
                wrong = true;
            }
        }
    }

    /** Runs a checked module; the check is why no height is looked at here again. */
    private static final class Runner {
        static final int ENDED = 0;
        private static final int BY_TRAP = 1;
        private static final int BY_CELL = 2;
        private static final int BY_ZERO = 3;
        private static final int BY_CALL = 4;
        private static final int OUT_OF_STEPS = 5;
        private static final int GOING = 6;

        private final Program program;
        private final int[] inputs = new int[MOST_INPUTS];
        private int inputCount;
        private int nextInput;
        final int[] cells = new int[CELLS];
        final int[] outputs = new int[MOST_OUTPUTS];
        int outputCount;
        boolean ran;
        int state;
        int at;
        int steps;
        int result;
        private final int[] stack = new int[(MOST_CALLS + 1) * MOST_OPERANDS];
        private final int[] variables = new int[(MOST_CALLS + 1) * MOST_LOCALS];
        private final int[] bottoms = new int[MOST_CALLS + 1];
        private final int[] callers = new int[MOST_CALLS + 1];
        private int calls;
        private int height;

        Runner(Program program) {
            this.program = program;
        }

        void forget() {
            ran = false;
        }

        int addInput(int v) {
            if (v < 0 || v >= VALUES || inputCount >= MOST_INPUTS) {
                return NONE;
            }
            inputs[inputCount] = v;
            inputCount++;
            return inputCount;
        }

        int runWith(int x, int y, int limit) {
            begin(Math.floorMod(x, VALUES), Math.floorMod(y, VALUES));
            while (state == GOING && steps < limit) {
                steps++;
                step(at);
            }
            if (state == GOING) {
                state = OUT_OF_STEPS;
            }
            inputCount = 0;
            return state;
        }

        private void begin(int x, int y) {
            Arrays.fill(cells, 0);
            ran = true;
            state = GOING;
            steps = 0;
            result = NONE;
            outputCount = 0;
            nextInput = 0;
            stack[0] = x;
            stack[1] = y;
            height = program.parameters[0];
            calls = 0;
            enter(0);
        }

        /** The parameters are on the stack of the caller, the last one on top. */
        private void enter(int f) {
            int parameters = program.parameters[f];
            height -= parameters;
            bottoms[calls] = height;
            for (int i = 0; i < MOST_LOCALS; i++) {
                variables[calls * MOST_LOCALS + i] = i < parameters ? stack[height + i] : 0;
            }
            at = program.firsts[f];
        }

        private void step(int k) {
            switch (program.ops[k]) {
                case Ops.TRAP:
                    state = BY_TRAP;
                    break;
                case Ops.BLOCK:
                case Ops.LOOP:
                    at++;
                    break;
                case Ops.IF:
                    jumpIf(k, pop() == 0);
                    break;
                case Ops.BRANCH_IF:
                    jumpIf(k, pop() != 0);
                    break;
                case Ops.ELSE:
                case Ops.END:
                case Ops.BRANCH:
                case Ops.RETURN:
                    jump(k);
                    break;
                case Ops.CALL:
                    call(k);
                    break;
                default:
                    operate(program.ops[k], program.arguments[k]);
                    if (state == GOING) {
                        at++;
                    }
                    break;
            }
        }

        private void jumpIf(int k, boolean jumps) {
            if (jumps) {
                jump(k);
            } else {
                at++;
            }
        }

        private void jump(int k) {
            int top = bottoms[calls] + program.bases[k];
            if (program.kept[k] == 1) {
                stack[top] = stack[height - 1];
            }
            height = top + program.kept[k];
            if (program.goals[k] == Program.LEAVE) {
                leave(program.kept[k]);
            } else {
                at = program.goals[k];
            }
        }

        /** The results lie where the caller's operands end, so they are given already. */
        private void leave(int results) {
            if (calls > 0) {
                at = callers[calls] + 1;
                calls--;
                return;
            }
            state = ENDED;
            if (results == 1) {
                result = pop();
            }
        }

        private void call(int k) {
            if (calls >= MOST_CALLS) {
                state = BY_CALL;
                return;
            }
            calls++;
            callers[calls] = k;
            enter(program.arguments[k]);
        }

        private void operate(int op, int argument) {
            int variable = calls * MOST_LOCALS + argument;
            switch (op) {
                case Ops.DROP:
                    height--;
                    break;
                case Ops.PICK:
                    pick();
                    break;
                case Ops.GET:
                    push(variables[variable]);
                    break;
                case Ops.SET:
                    variables[variable] = pop();
                    break;
                case Ops.TEE:
                    variables[variable] = stack[height - 1];
                    break;
                case Ops.LOAD:
                    fetch(argument);
                    break;
                case Ops.STORE:
                    store(argument);
                    break;
                case Ops.CONST:
                    push(argument);
                    break;
                case Ops.NOT:
                    push(pop() == 0 ? 1 : 0);
                    break;
                case Ops.INPUT:
                    takeInput();
                    break;
                case Ops.OUTPUT:
                    putOut(pop());
                    break;
                default:
                    reckon(op);
                    break;
            }
        }

        private void pick() {
            int c = pop();
            int b = pop();
            int a = pop();
            push(c != 0 ? a : b);
        }

        private void fetch(int offset) {
            int address = pop() + offset;
            if (address >= CELLS) {
                state = BY_CELL;
            } else {
                push(cells[address]);
            }
        }

        private void store(int offset) {
            int value = pop();
            int address = pop() + offset;
            if (address >= CELLS) {
                state = BY_CELL;
            } else {
                cells[address] = value;
            }
        }

        private void takeInput() {
            if (nextInput < inputCount) {
                push(inputs[nextInput]);
                nextInput++;
            } else {
                push(0);
            }
        }

        private void putOut(int value) {
            if (outputCount < MOST_OUTPUTS) {
                outputs[outputCount] = value;
            }
            outputCount++;
        }

        private void reckon(int op) {
            int q = pop();
            int p = pop();
            if (q == 0 && (op == Ops.OVER || op == Ops.REST)) {
                state = BY_ZERO;
                return;
            }
            push(reckoned(op, p, q));
        }

        private static int reckoned(int op, int p, int q) {
            switch (op) {
                case Ops.SAME:
                    return p == q ? 1 : 0;
                case Ops.LESS:
                    return p < q ? 1 : 0;
                case Ops.PLUS:
                    return (p + q) % VALUES;
                case Ops.MINUS:
                    return (p - q + VALUES) % VALUES;
                case Ops.TIMES:
                    return p * q % VALUES;
                case Ops.OVER:
                    return q == 0 ? 0 : p / q;
                case Ops.REST:
                    return q == 0 ? 0 : p % q;
                default:
                    return p & q;
            }
        }

        private void push(int value) {
            stack[height] = value;
            height++;
        }

        private int pop() {
            height--;
            return stack[height];
        }
    }

    /** Ranges are held as they are answered: least + 64 * greatest + 4096 if tainted; NONE has no value. */
    private static final class Ranges {
        static final int TAINT = 4096;
        static final int ALL = (VALUES - 1) * VALUES;
        private static final int LEAST = VALUES - 1;
        private static final int GREATEST = LEAST * VALUES;

        static int of(int least, int greatest) {
            return least + VALUES * greatest;
        }

        static int least(int range) {
            return range & LEAST;
        }

        static int greatest(int range) {
            return (range & GREATEST) / VALUES;
        }

        static boolean canBeZero(int range) {
            return least(range) == 0;
        }

        static boolean canBeOther(int range) {
            return greatest(range) != 0;
        }

        static int taintOf(int range) {
            return range & TAINT;
        }

        static int join(int one, int other) {
            if (one == NONE) {
                return other;
            }
            if (other == NONE || other == one) {
                return one;
            }
            int least = (one & LEAST) < (other & LEAST) ? one & LEAST : other & LEAST;
            int greatest = (one & GREATEST) > (other & GREATEST) ? one & GREATEST : other & GREATEST;
            return least | greatest | ((one | other) & TAINT);
        }

        static int not(int p) {
            return truth(canBeZero(p), canBeOther(p)) | taintOf(p);
        }

        static int pick(int a, int b, int c) {
            int picked = b;
            if (canBeOther(c)) {
                picked = canBeZero(c) ? join(a, b) : a;
            }
            return picked | taintOf(c);
        }

        /** The values that an op that takes two can give, untainted; NONE if there are none. */
        static int reckoned(int op, int p, int q) {
            switch (op) {
                case Ops.SAME:
                    return same(p, q);
                case Ops.LESS:
                    return truth(least(p) < greatest(q), greatest(p) >= least(q));
                case Ops.PLUS:
                    return wrapped(least(p) + least(q), greatest(p) + greatest(q));
                case Ops.MINUS:
                    return wrapped(least(p) - greatest(q), greatest(p) - least(q));
                case Ops.TIMES:
                    return times(p, q);
                case Ops.OVER:
                    return over(p, q);
                case Ops.REST:
                    return rest(p, q);
                default:
                    return of(leastBoth(p, q), greatestBoth(p, q));
            }
        }

        private static int truth(boolean canHold, boolean canFail) {
            return of(canFail ? 0 : 1, canHold ? 1 : 0);
        }

        private static int same(int p, int q) {
            boolean meet = least(p) <= greatest(q) && least(q) <= greatest(p);
            boolean oneEach = least(p) == greatest(p) && least(q) == greatest(q);
            return of(meet && oneEach ? 1 : 0, meet ? 1 : 0);
        }

        /** All whole numbers from low to high occur, so crossing a multiple of 64 gives both 63 and 0. */
        private static int wrapped(int low, int high) {
            if (Math.floorDiv(low, VALUES) != Math.floorDiv(high, VALUES)) {
                return ALL;
            }
            return of(Math.floorMod(low, VALUES), Math.floorMod(high, VALUES));
        }

        /** Products leave gaps, so beyond 63 nothing but trying the pairs tells the bounds. */
        private static int times(int p, int q) {
            if (greatest(p) * greatest(q) < VALUES) {
                return of(least(p) * least(q), greatest(p) * greatest(q));
            }
            int least = VALUES - 1;
            int greatest = 0;
            for (int i = least(p); i <= greatest(p); i++) {
                for (int j = least(q); j <= greatest(q); j++) {
                    int product = i * j % VALUES;
                    least = Math.min(least, product);
                    greatest = Math.max(greatest, product);
                }
                if (least == 0 && greatest == VALUES - 1) {
                    return ALL;
                }
            }
            return of(least, greatest);
        }

        private static int over(int p, int q) {
            int most = greatest(q);
            if (most == 0) {
                return NONE;
            }
            return of(least(p) / most, greatest(p) / Math.max(1, least(q)));
        }

        private static int rest(int p, int q) {
            if (greatest(q) == 0) {
                return NONE;
            }
            int least = VALUES - 1;
            int greatest = 0;
            for (int by = Math.max(1, least(q)); by <= greatest(q); by++) {
                int low = least(p) % by;
                int high = greatest(p) % by;
                // Passing a multiple of the divisor meets both its greatest rest and 0.
                boolean passes = least(p) / by != greatest(p) / by;
                least = Math.min(least, passes ? 0 : low);
                greatest = Math.max(greatest, passes ? by - 1 : high);
            }
            return of(least, greatest);
        }

        /** Raising one side to where a bit that both lack begins clears all bits below it. */
        private static int leastBoth(int p, int q) {
            int a = least(p);
            int c = least(q);
            for (int bit = VALUES / 2; bit > 0; bit /= 2) {
                if ((a & bit) == 0 && (c & bit) == 0) {
                    int raisedA = (a | bit) & -bit;
                    int raisedC = (c | bit) & -bit;
                    if (raisedA <= greatest(p)) {
                        return raisedA & c;
                    }
                    if (raisedC <= greatest(q)) {
                        return a & raisedC;
                    }
                }
            }
            return a & c;
        }

        /** Lowering one side by a bit that the other lacks sets all bits below it. */
        private static int greatestBoth(int p, int q) {
            int b = greatest(p);
            int d = greatest(q);
            for (int bit = VALUES / 2; bit > 0; bit /= 2) {
                int loweredB = (b & ~bit) | (bit - 1);
                int loweredD = (d & ~bit) | (bit - 1);
                if ((b & bit) != 0 && (d & bit) == 0 && loweredB >= least(p)) {
                    return loweredB & d;
                }
                if ((b & bit) == 0 && (d & bit) != 0 && loweredD >= least(q)) {
                    return b & loweredD;
                }
            }
            return b & d;
        }
    }

    /** Finds the smallest ranges by giving on what is known until nothing grows any more. */
    private static final class Foreteller {
        // Each pass but the last lets a range grow, and there are far fewer growths than this.
        private static final int MOST_PASSES = 1000000;
        private static final int FLAG_TRAP = 1;
        private static final int FLAG_CELL = 2;
        private static final int FLAG_ZERO = 4;
        private static final int FLAG_TAINTED_OUTPUT = 8;

        private final Program program;
        final boolean[] reached = new boolean[MOST_BYTES];
        final int[] heights = new int[MOST_BYTES];
        final int[] cells = new int[CELLS];
        final int[] results = new int[MOST_FUNCTIONS];
        final boolean[] canEnd = new boolean[MOST_FUNCTIONS];
        private final boolean[] waiting = new boolean[MOST_BYTES];
        private final int[] operands = new int[MOST_BYTES * MOST_OPERANDS];
        private final int[] locals = new int[MOST_BYTES * MOST_LOCALS];
        private final int[] parameters = new int[MOST_FUNCTIONS * MOST_PARAMETERS];
        private final int[] stack = new int[MOST_OPERANDS];
        private final int[] variables = new int[MOST_LOCALS];
        private int height;

        Foreteller(Program program) {
            this.program = program;
        }

        void foretell() {
            clear();
            for (int i = 0; i < MOST_PARAMETERS; i++) {
                parameters[i] = Ranges.ALL;
            }
            enter(0);
            boolean grew = true;
            for (int pass = 0; pass < MOST_PASSES && grew; pass++) {
                grew = false;
                for (int k = 0; k < program.size; k++) {
                    if (waiting[k]) {
                        waiting[k] = false;
                        grew = true;
                        recall(k);
                        follow(k);
                    }
                }
            }
        }

        int operandAt(int k, int i) {
            if (!reached[k] || i < 0 || i >= heights[k]) {
                return NONE;
            }
            return operands[k * MOST_OPERANDS + heights[k] - 1 - i];
        }

        int localAt(int k, int i) {
            if (!reached[k] || i < 0 || i >= program.localCount(program.owners[k])) {
                return NONE;
            }
            return locals[k * MOST_LOCALS + i];
        }

        int flagsAt(int k) {
            if (!reached[k]) {
                return 0;
            }
            switch (program.ops[k]) {
                case Ops.TRAP:
                    return FLAG_TRAP;
                case Ops.LOAD:
                    return canMiss(operandAt(k, 0), program.arguments[k]) ? FLAG_CELL : 0;
                case Ops.STORE:
                    return canMiss(operandAt(k, 1), program.arguments[k]) ? FLAG_CELL : 0;
                case Ops.OVER:
                case Ops.REST:
                    return Ranges.canBeZero(operandAt(k, 0)) ? FLAG_ZERO : 0;
                case Ops.OUTPUT:
                    return Ranges.taintOf(operandAt(k, 0)) != 0 ? FLAG_TAINTED_OUTPUT : 0;
                default:
                    return 0;
            }
        }

        private static boolean canMiss(int address, int offset) {
            return Ranges.greatest(address) + offset >= CELLS;
        }

        private void clear() {
            for (int k = 0; k < MOST_BYTES; k++) {
                reached[k] = false;
                waiting[k] = false;
            }
            for (int f = 0; f < MOST_FUNCTIONS; f++) {
                canEnd[f] = false;
            }
            Arrays.fill(operands, NONE);
            Arrays.fill(locals, NONE);
            Arrays.fill(parameters, NONE);
            Arrays.fill(results, NONE);
            Arrays.fill(cells, 0);
        }

        private void recall(int k) {
            height = heights[k];
            System.arraycopy(operands, k * MOST_OPERANDS, stack, 0, MOST_OPERANDS);
            System.arraycopy(locals, k * MOST_LOCALS, variables, 0, MOST_LOCALS);
        }

        private void follow(int k) {
            switch (program.ops[k]) {
                case Ops.TRAP:
                    break;
                case Ops.BLOCK:
                case Ops.LOOP:
                    arrive(k + 1);
                    break;
                case Ops.IF:
                case Ops.BRANCH_IF:
                    fork(k, program.ops[k] == Ops.IF);
                    break;
                case Ops.ELSE:
                case Ops.END:
                case Ops.BRANCH:
                case Ops.RETURN:
                    jump(k);
                    break;
                case Ops.CALL:
                    call(k, program.arguments[k]);
                    break;
                default:
                    if (operate(program.ops[k], program.arguments[k])) {
                        arrive(k + 1);
                    }
                    break;
            }
        }

        /** The jump comes last, as it changes the stack. */
        private void fork(int k, boolean jumpsOnZero) {
            int condition = pop();
            boolean canBeZero = Ranges.canBeZero(condition);
            boolean canBeOther = Ranges.canBeOther(condition);
            if (jumpsOnZero ? canBeOther : canBeZero) {
                arrive(k + 1);
            }
            if (jumpsOnZero ? canBeZero : canBeOther) {
                jump(k);
            }
        }

        private void jump(int k) {
            if (program.goals[k] == Program.LEAVE) {
                leave(program.owners[k]);
                return;
            }
            int base = program.bases[k];
            if (program.kept[k] == 1) {
                stack[base] = stack[height - 1];
            }
            height = base + program.kept[k];
            arrive(program.goals[k]);
        }

        private void leave(int f) {
            int joined = results[f];
            if (program.results[f] == 1) {
                joined = Ranges.join(joined, stack[height - 1]);
            }
            if (!canEnd[f] || joined != results[f]) {
                canEnd[f] = true;
                results[f] = joined;
                wake(Ops.CALL);
            }
        }

        /** The function is entered last, as that changes the stack and the variables. */
        private void call(int k, int f) {
            int count = program.parameters[f];
            height -= count;
            joinInto(parameters, f * MOST_PARAMETERS, stack, height, count);
            if (canEnd[f]) {
                if (program.results[f] == 1) {
                    push(results[f]);
                }
                arrive(k + 1);
            }
            enter(f);
        }

        private void enter(int f) {
            height = 0;
            for (int i = 0; i < MOST_LOCALS; i++) {
                variables[i] = i < program.parameters[f] ? parameters[f * MOST_PARAMETERS + i] : 0;
            }
            arrive(program.firsts[f]);
        }

        private void arrive(int k) {
            heights[k] = height;
            int localCount = program.localCount(program.owners[k]);
            boolean moreOperands = joinInto(operands, k * MOST_OPERANDS, stack, 0, height);
            boolean moreLocals = joinInto(locals, k * MOST_LOCALS, variables, 0, localCount);
            if (!reached[k] || moreOperands || moreLocals) {
                reached[k] = true;
                waiting[k] = true;
            }
        }

        /** Answers whether one of the known ranges grew. */
        private static boolean joinInto(int[] known, int at, int[] given, int from, int count) {
            boolean grew = false;
            for (int i = 0; i < count; i++) {
                int joined = Ranges.join(known[at + i], given[from + i]);
                if (joined != known[at + i]) {
                    known[at + i] = joined;
                    grew = true;
                }
            }
            return grew;
        }

        private void wake(int op) {
            for (int k = 0; k < program.size; k++) {
                if (reached[k] && program.ops[k] == op) {
                    waiting[k] = true;
                }
            }
        }

        /** Answers whether a run can go on behind it. */
        private boolean operate(int op, int argument) {
            switch (op) {
                case Ops.DROP:
                case Ops.OUTPUT:
                    pop();
                    return true;
                case Ops.PICK:
                    pick();
                    return true;
                case Ops.GET:
                    push(variables[argument]);
                    return true;
                case Ops.SET:
                    variables[argument] = pop();
                    return true;
                case Ops.TEE:
                    variables[argument] = stack[height - 1];
                    return true;
                case Ops.LOAD:
                    return fetch(argument);
                case Ops.STORE:
                    return store(argument);
                case Ops.CONST:
                    push(Ranges.of(argument, argument));
                    return true;
                case Ops.NOT:
                    push(Ranges.not(pop()));
                    return true;
                case Ops.INPUT:
                    push(Ranges.ALL | Ranges.TAINT);
                    return true;
                default:
                    return reckon(op);
            }
        }

        private void pick() {
            int c = pop();
            int b = pop();
            int a = pop();
            push(Ranges.pick(a, b, c));
        }

        private boolean fetch(int offset) {
            int address = pop();
            int last = Math.min(Ranges.greatest(address) + offset, CELLS - 1);
            int found = NONE;
            for (int c = Ranges.least(address) + offset; c <= last; c++) {
                found = Ranges.join(found, cells[c]);
            }
            if (found == NONE) {
                return false;
            }
            push(found | Ranges.taintOf(address));
            return true;
        }

        private boolean store(int offset) {
            int value = pop();
            int address = pop();
            int first = Ranges.least(address) + offset;
            int last = Math.min(Ranges.greatest(address) + offset, CELLS - 1);
            boolean grew = false;
            for (int c = first; c <= last; c++) {
                int joined = Ranges.join(cells[c], value | Ranges.taintOf(address));
                grew = grew || joined != cells[c];
                cells[c] = joined;
            }
            if (grew) {
                wake(Ops.LOAD);
            }
            return first <= last;
        }

        private boolean reckon(int op) {
            int q = pop();
            int p = pop();
            int given = Ranges.reckoned(op, p, q);
            if (given == NONE) {
                return false;
            }
            push(given | Ranges.taintOf(p | q));
            return true;
        }

        private void push(int range) {
            stack[height] = range;
            height++;
        }

        private int pop() {
            height--;
            return stack[height];
        }
    }
}
