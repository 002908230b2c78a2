/** The boundary cases that the sentences of promises 1 to 14 name, each by itself. */
public final class PromisesEdgesTest extends Bench {
    private static final int[] OUTSIDE = {MIN, MIN + 1, -1000, -65, -64, -4, -3, -2, -1};

    public static void main(String[] args) {
        newObjectHasNoBytes();
        newObjectHasNoModule();
        newObjectsAreApart();
        feedTooSmall();
        feedTooLarge();
        feedFull();
        feedRefusedChangesNothing();
        loadAnswersTheCount();
        loadTakesTheBytes();
        loadBeginsAnew();
        loadInPlaceOfTheOneBefore();
        loadMalformedLeavesNoModule();
        loadInvalidLeavesNoModule();
        loadForgetsTheRun();
        loadKeepsInputs();
        placeOfMalformed();
        placeAtTheEnd();
        placeOfInvalid();
        placeElse();
        placeStays();
        inputCounts();
        inputTooSmall();
        inputTooLarge();
        inputFull();
        inputRefusedChangesNothing();
        runModulo();
        runParametersThatItHas();
        runUsesUpInputs();
        runStepsBelowZero();
        runStepsOfTwoThousand();
        runAnswers();
        runWithoutModule();
        outcomeOfResult();
        outcomeOfInstruction();
        outcomeOfSteps();
        outcomeOfOutputs();
        outcomeBeforeRun();
        outcomeOfWhat();
        outcomeOfTheLatest();
        outputOfTheFirstTwenty();
        outputIfThereIsNone();
        memoryOfCells();
        memoryBeforeRun();
        memoryOutside();
        instructionOutside();
        instructionWhat();
        instructionOpAndArgument();
        instructionReached();
        instructionBehindEnd();
        instructionOperands();
        operandFromTheTop();
        operandIfThereIsNone();
        localOfEach();
        localIfThereIsNone();
        cellOfEach();
        cellIfThereIsNone();
        functionOutside();
        functionWhat();
        functionCounts();
        functionResult();
        functionCanEnd();
        askingChangesNothing();
        finish();
    }

    // ---- promise 1: a new object

    private static void newObjectHasNoBytes() {
        sentence("RangeTeller(): No bytes");
        RangeTeller t = new RangeTeller();
        due("load()", t.load(), MALFORMED);
        due("place()", t.place(), 0);
        t = new RangeTeller();
        load(t, "1 0 0 0 END", 1);
    }

    private static void newObjectHasNoModule() {
        sentence("RangeTeller(): ... no module");
        RangeTeller t = new RangeTeller();
        nothingLoaded(t);
        due("place()", t.place(), NONE);
        due("input(5)", t.input(5), 1);
    }

    private static void newObjectsAreApart() {
        sentence("RangeTeller(): No bytes, no module (whatever other objects have)");
        RangeTeller other = loaded("1 0 0 1 CONST 3 CONST 4 STORE 0 CONST 5 OUTPUT CONST 9 END");
        runs(other, 0, 0, 99, 0);
        due("input(5)", other.input(5), 1);
        feed(other, 1, 0);
        about = "a second object";
        RangeTeller t = new RangeTeller();
        nothingLoaded(t);
        due("input(6)", t.input(6), 1);
        load(t, "1 0 0 1 INPUT END", 2);
        nothingRun(t);
        due("cell(3)", t.cell(3), 0);
        runs(t, 0, 0, 99, 0);
        due("outcome(0)", t.outcome(0), 6);
        about = "the first object";
        due("outcome(0)", other.outcome(0), 9);
        due("output(0)", other.output(0), 5);
        due("memory(3)", other.memory(3), 4);
        due("cell(3)", other.cell(3), range(0, 4));
        due("input(7)", other.input(7), 2);
        due("load() of 1, 0", other.load(), MALFORMED);
        due("place()", other.place(), 2);
    }

    // ---- promise 2: feed

    private static void feedTooSmall() {
        sentence("feed: Appends a byte; false if it isn't 0 .. 63");
        RangeTeller t = new RangeTeller();
        for (int b : OUTSIDE) {
            due("feed(" + b + ")", t.feed(b), false);
        }
        due("feed(0)", t.feed(0), true);
    }

    private static void feedTooLarge() {
        sentence("feed: Appends a byte; false if it isn't 0 .. 63");
        RangeTeller t = new RangeTeller();
        for (int b : new int[] {64, 65, 127, 128, 255, 256, 1000, MAX}) {
            due("feed(" + b + ")", t.feed(b), false);
        }
        for (int b = 0; b <= 63; b++) {
            due("feed(" + b + ")", t.feed(b), true);
        }
    }

    private static void feedFull() {
        sentence("feed: ... false if ... 100 are there");
        RangeTeller t = new RangeTeller();
        feed(t, 1, 0, 0, 0);
        for (int n = 4; n < 99; n++) {
            due("feed(0) as byte " + n, t.feed(0), true);
        }
        due("feed(5) as byte 99", t.feed(5), true);
        due("feed(5) as byte 100", t.feed(5), false);
        due("feed(0) as byte 100", t.feed(0), false);
        due("feed(64) as byte 100", t.feed(64), false);
        // The 100 bytes are there, and the refused ones are not.
        due("load()", t.load(), 96);
        due("instruction(95, 0)", t.instruction(95, 0), 5);
        // There is room again behind the load.
        for (int n = 0; n < 100; n++) {
            due("feed(3) as byte " + n, t.feed(3), true);
        }
        due("feed(3) as byte 100", t.feed(3), false);
    }

    private static void feedRefusedChangesNothing() {
        sentence("feed: Appends a byte; false if it isn't 0 .. 63 (then nothing is appended)");
        RangeTeller t = new RangeTeller();
        for (int b : new int[] {1, 0, 0, 0, 5}) {
            due("feed(64)", t.feed(64), false);
            due("feed(-1)", t.feed(-1), false);
            due("feed(" + b + ")", t.feed(b), true);
        }
        due("feed(64 + 5)", t.feed(69), false);
        due("load()", t.load(), 1);
    }

    // ---- promise 3: load

    private static void loadAnswersTheCount() {
        sentence("load: ... how many instructions it has");
        load(new RangeTeller(), "1 0 0 0 END", 1);
        load(new RangeTeller(), "3 0 0 0 END 2 2 0 END 0 0 1 CONST 63 END", 4);
        load(new RangeTeller(), "1 0 0 0 " + times(95, "TRAP") + "END", 96);
        load(new RangeTeller(), "1 0 0 0 " + times(31, "BLOCK 0") + times(31, "END") + "END", 63);
        load(new RangeTeller(), "1 0 0 0 " + times(48, "BLOCK 0"), MALFORMED);
    }

    private static void loadTakesTheBytes() {
        sentence("load: Takes the bytes (there are none then, whatever is answered)");
        String[] before = {"1 0 0 0 END", "1 0 0 0", "1 0 0 0 DROP END", "0"};
        int[] answer = {1, MALFORMED, INVALID, MALFORMED};
        for (int i = 0; i < before.length; i++) {
            RangeTeller t = new RangeTeller();
            load(t, before[i], answer[i]);
            due("load() of no bytes", t.load(), MALFORMED);
            due("place()", t.place(), 0);
            load(t, before[i], answer[i]);
            load(t, "1 0 0 0 TRAP END", 2);
        }
    }

    private static void loadBeginsAnew() {
        sentence("load: Takes the bytes ... as a module in place of the one before (wherever reading or checking "
            + "stopped)");
        String[] before = {"1 0 0 0 INPUT IF 0 BLOCK 0 LOOP 0", "1 0 0 0 INPUT IF 0",
            "1 0 0 0 INPUT INPUT BLOCK 0 DROP", "1 0 0 0 INPUT INPUT BLOCK 0 DROP END TRAP END",
            "1 0 0 0 INPUT INPUT INPUT END", "3 2 2 1 TRAP DROP GET 9 END"};
        for (String text : before) {
            RangeTeller t = new RangeTeller();
            feed(t, bytes(text));
            due("load() below 0", t.load() < 0, true);
            load(t, "1 0 0 0 END", 1);
            feed(t, bytes(text));
            due("load() below 0", t.load() < 0, true);
            load(t, "1 0 0 0 ELSE END", MALFORMED);
            due("place()", t.place(), 4);
            feed(t, bytes(text));
            due("load() below 0", t.load() < 0, true);
            load(t, "1 0 0 0 DROP END", INVALID);
            due("place()", t.place(), 0);
            feed(t, bytes(text));
            due("load() below 0", t.load() < 0, true);
            load(t, "1 0 0 0 " + times(10, "INPUT") + "TRAP END", 12);
        }
    }

    private static void loadInPlaceOfTheOneBefore() {
        sentence("load: ... as a module in place of the one before");
        RangeTeller t = new RangeTeller();
        load(t, "3 2 2 1 CONST 3 INPUT STORE 0 INPUT END 0 0 0 END 1 1 1 GET 0 END", 8);
        load(t, "1 0 1 0 END", 1);
        due("instruction(1, 0)", t.instruction(1, 0), NONE);
        due("instruction(0, 0)", t.instruction(0, 0), 5);
        due("operand(1, 0)", t.operand(1, 0), NONE);
        due("local(0, 0)", t.local(0, 0), 0);
        due("local(0, 1)", t.local(0, 1), NONE);
        due("cell(3)", t.cell(3), 0);
        due("function(0, 4)", t.function(0, 4), NONE);
        due("function(1, 0)", t.function(1, 0), NONE);
        runs(t, 0, 0, 9, 0);
        outcomes(t, NONE, NONE, 1, 0);
    }

    private static void loadMalformedLeavesNoModule() {
        sentence("load: ... MALFORMED ...: there is no module then");
        RangeTeller t = loaded("1 1 1 1 INPUT END");
        runs(t, 0, 0, 9, 0);
        load(t, "1 0 0 0 INPUT DROP", MALFORMED);
        nothingLoaded(t);
        load(t, "1 0 0 0 END", 1);
        due("load() of no bytes", t.load(), MALFORMED);
        nothingLoaded(t);
    }

    private static void loadInvalidLeavesNoModule() {
        sentence("load: ... INVALID: there is no module then");
        RangeTeller t = loaded("1 1 1 1 INPUT END");
        runs(t, 0, 0, 9, 0);
        load(t, "1 1 1 1 INPUT INPUT END", INVALID);
        nothingLoaded(t);
    }

    private static void loadForgetsTheRun() {
        sentence("load: ... What was run before is forgotten");
        String text = "1 0 0 1 CONST 3 CONST 4 STORE 0 CONST 5 OUTPUT CONST 9 END";
        String[] next = {text, "1 0 0 0", "1 0 0 0 DROP END"};
        int[] answer = {7, MALFORMED, INVALID};
        for (int i = 0; i < next.length; i++) {
            RangeTeller t = loaded(text);
            runs(t, 0, 0, 99, 0);
            due("outcome(0)", t.outcome(0), 9);
            due("output(0)", t.output(0), 5);
            due("memory(3)", t.memory(3), 4);
            load(t, next[i], answer[i]);
            nothingRun(t);
            load(t, text, 7);
            nothingRun(t);
        }
    }

    private static void loadKeepsInputs() {
        sentence("load: ... inputs stay");
        RangeTeller t = new RangeTeller();
        due("input(11)", t.input(11), 1);
        load(t, "1 0 0 0 END", 1);
        due("input(12)", t.input(12), 2);
        load(t, "1 0 0 0", MALFORMED);
        due("input(13)", t.input(13), 3);
        load(t, "1 0 0 0 DROP END", INVALID);
        due("input(14)", t.input(14), 4);
        load(t, "1 0 0 0 " + times(5, "INPUT OUTPUT") + "END", 11);
        runs(t, 0, 0, 99, 0);
        int[] want = {11, 12, 13, 14, 0};
        for (int k = 0; k < want.length; k++) {
            due("output(" + k + ")", t.output(k), want[k]);
        }
    }

    // ---- promise 4: place

    private static void placeOfMalformed() {
        sentence("place: if MALFORMED the place of the byte (from 0)");
        malformed(0, 0);
        malformed(1, 1, 3);
        malformed(4, 1, 0, 0, 0, 29, 5);
        RangeTeller t = new RangeTeller();
        feed(t, 1, 0, 0, 0);
        for (int n = 4; n < 98; n++) {
            feed(t, 0);
        }
        feed(t, 5, 0);
        due("load()", t.load(), MALFORMED);
        due("place()", t.place(), 99);
    }

    private static void placeAtTheEnd() {
        sentence("place: ... (how many bytes there were, if the end comes too early)");
        malformed(0);
        malformed(1, 1);
        malformed(4, 1, 0, 0, 0);
        malformed(6, 1, 0, 0, 0, 17, 40);
        malformed(5, 2, 0, 0, 0, 5);
    }

    private static void placeOfInvalid() {
        sentence("place: ... if INVALID the number of the instruction");
        invalid(0, "1 0 0 0 DROP END");
        // The number of the instruction, not of its byte.
        invalid(2, "1 0 0 0 CONST 63 CONST 63 GET 0 END");
        invalid(3, "3 0 0 0 END 0 0 0 END 0 0 0 INPUT END");
        invalid(95, "1 0 0 0 " + times(47, "INPUT DROP") + "INPUT END");
    }

    private static void placeElse() {
        sentence("place: ... else, or if there was none, NONE");
        RangeTeller t = new RangeTeller();
        due("place()", t.place(), NONE);
        feed(t, bytes("1 0 0 0 END"));
        due("place() before the load", t.place(), NONE);
        due("load()", t.load(), 1);
        due("place()", t.place(), NONE);
        load(t, "0", MALFORMED);
        due("place()", t.place(), 0);
        load(t, "1 0 0 0 END", 1);
        due("place()", t.place(), NONE);
        load(t, "1 0 0 0 DROP END", INVALID);
        due("place()", t.place(), 0);
        load(t, "1 0 0 0 END", 1);
        due("place()", t.place(), NONE);
    }

    private static void placeStays() {
        sentence("place: Of the latest load");
        RangeTeller t = new RangeTeller();
        load(t, "1 0 0 0 INPUT INPUT END", INVALID);
        due("place()", t.place(), 2);
        due("feed(1)", t.feed(1), true);
        due("input(1)", t.input(1), 1);
        runs(t, 0, 0, 9, NONE);
        due("place() again", t.place(), 2);
        due("load() of 1", t.load(), MALFORMED);
        due("place()", t.place(), 1);
        due("feed(64)", t.feed(64), false);
        due("place() again", t.place(), 1);
    }

    // ---- promise 5: input

    private static void inputCounts() {
        sentence("input: Adds an input for the next run: how many there are");
        RangeTeller t = loaded("1 0 0 0 INPUT OUTPUT INPUT OUTPUT END");
        due("input(0)", t.input(0), 1);
        due("input(63)", t.input(63), 2);
        runs(t, 0, 0, 99, 0);
        due("output(0)", t.output(0), 0);
        due("output(1)", t.output(1), 63);
        due("input(1)", t.input(1), 1);
    }

    private static void inputTooSmall() {
        sentence("input: ... NONE: v isn't 0 .. 63");
        RangeTeller t = new RangeTeller();
        for (int v : OUTSIDE) {
            due("input(" + v + ")", t.input(v), NONE);
        }
        due("input(0)", t.input(0), 1);
    }

    private static void inputTooLarge() {
        sentence("input: ... NONE: v isn't 0 .. 63");
        RangeTeller t = new RangeTeller();
        for (int v : new int[] {64, 65, 127, 128, 1000, MAX}) {
            due("input(" + v + ")", t.input(v), NONE);
        }
        due("input(63)", t.input(63), 1);
    }

    private static void inputFull() {
        sentence("input: ... NONE: ... 12 are there");
        RangeTeller t = new RangeTeller();
        for (int n = 1; n <= 12; n++) {
            due("input as number " + n, t.input(n), n);
        }
        due("input as number 13", t.input(0), NONE);
        due("input as number 13", t.input(63), NONE);
        load(t, "1 0 0 0 " + times(13, "INPUT OUTPUT") + "END", 27);
        due("input as number 13", t.input(13), NONE);
        runs(t, 0, 0, 99, 0);
        for (int k = 0; k < 12; k++) {
            due("output(" + k + ")", t.output(k), k + 1);
        }
        due("output(12)", t.output(12), 0);
        for (int n = 1; n <= 12; n++) {
            due("input as number " + n, t.input(n), n);
        }
        due("input as number 13", t.input(13), NONE);
    }

    private static void inputRefusedChangesNothing() {
        sentence("input: ... NONE: v isn't 0 .. 63 (then nothing is added)");
        RangeTeller t = loaded("1 0 0 0 INPUT OUTPUT INPUT OUTPUT INPUT OUTPUT END");
        due("input(64)", t.input(64), NONE);
        due("input(7)", t.input(7), 1);
        due("input(-1)", t.input(-1), NONE);
        due("input(8)", t.input(8), 2);
        runs(t, 0, 0, 99, 0);
        due("output(0)", t.output(0), 7);
        due("output(1)", t.output(1), 8);
        due("output(2)", t.output(2), 0);
    }

    // ---- promise 6: run

    private static void runModulo() {
        sentence("run: ... with x and y (modulo 64, 0 .. 63 also of what is below 0)");
        int[] given = {0, 1, 63, 64, 65, 127, 128, MAX, MAX - 62, MAX - 63, -1, -2, -63, -64, -65, -128, -129, MIN,
            MIN + 1};
        int[] want = {0, 1, 63, 0, 1, 63, 0, 63, 1, 0, 63, 62, 1, 0, 63, 0, 63, 0, 1};
        RangeTeller t = loaded("1 2 0 0 GET 0 OUTPUT GET 1 OUTPUT END");
        for (int i = 0; i < given.length; i++) {
            int other = given.length - 1 - i;
            runs(t, given[i], given[other], 99, 0);
            due("output(0)", t.output(0), want[i]);
            due("output(1)", t.output(1), want[other]);
        }
    }

    private static void runParametersThatItHas() {
        sentence("run: ... x and y (...; those that it has) for its parameters");
        for (int parameters = 0; parameters <= 2; parameters++) {
            RangeTeller t = loaded("1 " + parameters + " 2 0 GET 0 OUTPUT GET 1 OUTPUT END");
            runs(t, 41, 42, 99, 0);
            due("output(0)", t.output(0), parameters > 0 ? 41 : 0);
            due("output(1)", t.output(1), parameters > 1 ? 42 : 0);
        }
    }

    private static void runUsesUpInputs() {
        sentence("run: ... the inputs (none are left then)");
        RangeTeller t = loaded("1 1 0 1 GET 0 IF 0 TRAP END INPUT END");
        int[] steps = {99, 99, 0, 1};
        int[] x = {0, 1, 0, 0};
        int[] want = {0, 1, 5, 5};
        for (int i = 0; i < steps.length; i++) {
            for (int n = 1; n <= 3; n++) {
                due("input(9)", t.input(9), n);
            }
            runs(t, x[i], 0, steps[i], want[i]);
            due("outcome(0)", t.outcome(0), i == 0 ? 9 : NONE);
            runs(t, 0, 0, 99, 0);
            due("outcome(0)", t.outcome(0), 0);
        }
    }

    private static void runStepsBelowZero() {
        sentence("run: ... at most so many steps (0 if it is below 0)");
        RangeTeller t = loaded("1 0 0 0 END");
        for (int steps : OUTSIDE) {
            runs(t, 0, 0, steps, 5);
            outcomes(t, NONE, 0, 0, 0);
        }
        runs(t, 0, 0, 0, 5);
        outcomes(t, NONE, 0, 0, 0);
        runs(t, 0, 0, 1, 0);
        outcomes(t, NONE, NONE, 1, 0);
    }

    private static void runStepsOfTwoThousand() {
        sentence("run: ... at most so many steps (... 2000 if it is more)");
        RangeTeller t = loaded("1 0 0 0 LOOP 0 BRANCH 0 END END");
        int[] given = {1998, 1999, 2000, 2001, 4000, MAX};
        int[] want = {1998, 1999, 2000, 2000, 2000, 2000};
        for (int i = 0; i < given.length; i++) {
            runs(t, 0, 0, given[i], 5);
            outcomes(t, NONE, 1, want[i], 0);
        }
        exactlyTwoThousand();
    }

    /** Runs that would end or trap with their step 2000, and one of a step more. */
    private static void exactlyTwoThousand() {
        // The LOOP, 8 + 64 * 6 rounds of 5 steps for x, 7 of 5 steps for y, and its END are 1997 steps.
        String rounds = "1 2 0 0 LOOP 0 GET 0 CONST 1 MINUS TEE 0 BRANCHIF 0 GET 1 CONST 1 MINUS TEE 1 BRANCHIF 0 END ";
        RangeTeller t = loaded(rounds + "BLOCK 0 END END");
        runs(t, 8, 7, 2000, 0);
        outcomes(t, NONE, NONE, 2000, 0);
        runs(t, 8, 7, 2001, 0);
        outcomes(t, NONE, NONE, 2000, 0);
        runs(t, 8, 7, 1999, 5);
        outcomes(t, NONE, 14, 1999, 0);
        t = loaded(rounds + "INPUT DROP TRAP END");
        runs(t, 8, 7, MAX, 1);
        outcomes(t, NONE, 14, 2000, 0);
        t = loaded(rounds + "BLOCK 0 CONST 1 BRANCHIF 0 END END");
        runs(t, 8, 7, 2001, 5);
        outcomes(t, NONE, 16, 2000, 0);
    }

    private static void runAnswers() {
        sentence("run: ... 0 it ended, 1 to 4 it trapped, 5 OUT OF STEPS");
        String[] bodies = {"", "TRAP", "CONST 16 LOAD 0 DROP", "CONST 1 CONST 0 OVER DROP", "CALL 0",
            "LOOP 0 BRANCH 0 END"};
        for (int want = 0; want < bodies.length; want++) {
            RangeTeller t = loaded("1 0 0 0 " + bodies[want] + " END");
            runs(t, 0, 0, 2000, want);
        }
    }

    private static void runWithoutModule() {
        sentence("run: ... NONE: there is no module (inputs stay then)");
        RangeTeller t = new RangeTeller();
        due("input(7)", t.input(7), 1);
        runs(t, 0, 0, 99, NONE);
        nothingRun(t);
        load(t, "1 0 0 0", MALFORMED);
        runs(t, 0, 0, 99, NONE);
        load(t, "1 0 0 0 DROP END", INVALID);
        runs(t, 0, 0, -1, NONE);
        nothingRun(t);
        due("input(8)", t.input(8), 2);
        load(t, "1 0 0 0 INPUT OUTPUT INPUT OUTPUT END", 5);
        nothingRun(t);
        runs(t, 0, 0, 99, 0);
        due("output(0)", t.output(0), 7);
        due("output(1)", t.output(1), 8);
    }

    // ---- promise 7: outcome

    private static void outcomeOfResult() {
        sentence("outcome: what 0 the result of function 0 (NONE if it didn't end or has none)");
        RangeTeller t = loaded("1 1 0 1 GET 0 IF 0 TRAP END CONST 63 END");
        runs(t, 0, 0, 99, 0);
        due("outcome(0)", t.outcome(0), 63);
        runs(t, 1, 0, 99, 1);
        due("outcome(0) of a trap", t.outcome(0), NONE);
        runs(t, 0, 0, 3, 5);
        due("outcome(0) out of steps", t.outcome(0), NONE);
        t = loaded("1 1 0 1 GET 0 END");
        runs(t, 0, 0, 99, 0);
        due("outcome(0)", t.outcome(0), 0);
        t = loaded("1 1 0 0 END");
        runs(t, 9, 0, 99, 0);
        due("outcome(0) without results", t.outcome(0), NONE);
        // The result of a function that was called isn't that of function 0.
        t = loaded("2 0 0 0 CALL 1 DROP END 0 0 1 CONST 5 END");
        runs(t, 0, 0, 99, 0);
        due("outcome(0) without results", t.outcome(0), NONE);
        t = loaded("2 0 0 1 CALL 1 TRAP END 0 0 1 CONST 5 END");
        runs(t, 0, 0, 99, 1);
        due("outcome(0) of a trap", t.outcome(0), NONE);
    }

    private static void outcomeOfInstruction() {
        sentence("outcome: what 1 the instruction that trapped, or that would have been next when it was OUT OF STEPS "
            + "(NONE if it ended)");
        RangeTeller t = loaded("2 1 0 0 CALL 1 GET 0 LOAD 0 DROP END 0 0 0 END");
        int[] next = {0, 5, 1, 2, 3, 4};
        for (int steps = 0; steps < next.length; steps++) {
            runs(t, 0, 0, steps, 5);
            due("outcome(1)", t.outcome(1), next[steps]);
        }
        runs(t, 0, 0, 6, 0);
        due("outcome(1)", t.outcome(1), NONE);
        runs(t, 16, 0, 6, 2);
        due("outcome(1)", t.outcome(1), 2);
        // Behind an IF, an ELSE and a BRANCH it is where they lead.
        t = loaded("1 1 0 0 GET 0 IF 0 BLOCK 0 BRANCH 0 END ELSE INPUT DROP END END");
        int[] taken = {0, 1, 2, 3, 5, 9};
        int[] other = {0, 1, 6, 7, 8, 9};
        for (int steps = 0; steps < taken.length - 1; steps++) {
            runs(t, 1, 0, steps, 5);
            due("outcome(1)", t.outcome(1), taken[steps]);
            runs(t, 0, 0, steps, 5);
            due("outcome(1)", t.outcome(1), other[steps]);
        }
        t = loaded("1 1 0 0 GET 0 IF 0 TRAP END END");
        runs(t, 0, 0, 2, 5);
        due("outcome(1)", t.outcome(1), 4);
    }

    private static void outcomeOfSteps() {
        sentence("outcome: ... 2 how many steps there were");
        RangeTeller t = loaded("1 1 0 0 GET 0 IF 0 TRAP END END");
        runs(t, 0, 0, 99, 0);
        due("outcome(2)", t.outcome(2), 3);
        runs(t, 1, 0, 99, 1);
        due("outcome(2)", t.outcome(2), 3);
        runs(t, 0, 0, 2, 5);
        due("outcome(2)", t.outcome(2), 2);
        runs(t, 0, 0, 0, 5);
        due("outcome(2)", t.outcome(2), 0);
    }

    private static void outcomeOfOutputs() {
        sentence("outcome: ... 3 how many values were put out");
        RangeTeller t = loaded("1 1 0 0 LOOP 0 GET 0 OUTPUT GET 0 CONST 1 MINUS TEE 0 BRANCHIF 0 END END");
        for (int n : new int[] {1, 2, 19, 20, 21, 22, 63}) {
            runs(t, n, 0, 2000, 0);
            due("outcome(3)", t.outcome(3), n);
        }
        runs(t, 0, 0, 2000, 0);
        due("outcome(3)", t.outcome(3), 64);
        runs(t, 9, 0, 2, 5);
        due("outcome(3) before the OUTPUT", t.outcome(3), 0);
        runs(t, 9, 0, 3, 5);
        due("outcome(3) behind the OUTPUT", t.outcome(3), 1);
        t = loaded("1 0 0 0 LOOP 0 INPUT OUTPUT BRANCH 0 END END");
        runs(t, 0, 0, 2000, 5);
        due("outcome(3)", t.outcome(3), 666);
    }

    private static void outcomeBeforeRun() {
        sentence("outcome: ... NONE if there was none since the load");
        RangeTeller t = loaded("1 0 0 1 CONST 5 END");
        nothingRun(t);
        runs(t, 0, 0, 0, 5);
        due("outcome(2) of a run of no steps", t.outcome(2), 0);
        due("outcome(3) of a run of no steps", t.outcome(3), 0);
        load(t, "1 0 0 1 CONST 5 END", 2);
        nothingRun(t);
    }

    private static void outcomeOfWhat() {
        sentence("outcome: ... NONE if ... what isn't 0 .. 3");
        RangeTeller t = loaded("1 0 0 1 CONST 5 END");
        runs(t, 0, 0, 99, 0);
        for (int what : OUTSIDE) {
            due("outcome(" + what + ")", t.outcome(what), NONE);
        }
        for (int what : new int[] {4, 5, 64, MAX}) {
            due("outcome(" + what + ")", t.outcome(what), NONE);
        }
    }

    private static void outcomeOfTheLatest() {
        sentence("outcome: Of the latest run");
        RangeTeller t = loaded("1 1 0 1 GET 0 OUTPUT GET 0 GET 0 STORE 0 GET 0 END");
        runs(t, 5, 0, 99, 0);
        outcomes(t, 5, NONE, 7, 1);
        runs(t, 16, 0, 99, 2);
        outcomes(t, NONE, 4, 5, 1);
        due("output(0)", t.output(0), 16);
        due("memory(5)", t.memory(5), 0);
        runs(t, 6, 0, 1, 5);
        outcomes(t, NONE, 1, 1, 0);
        due("output(0)", t.output(0), NONE);
        runs(t, 7, 0, 99, 0);
        outcomes(t, 7, NONE, 7, 1);
        due("output(0)", t.output(0), 7);
        due("memory(7)", t.memory(7), 7);
    }

    // ---- promise 8: output

    private static void outputOfTheFirstTwenty() {
        sentence("output: The k-th value (from 0) that the latest run put out, of the first 20");
        RangeTeller t = loaded("1 1 0 0 LOOP 0 GET 0 OUTPUT GET 0 CONST 1 MINUS TEE 0 BRANCHIF 0 END END");
        for (int n : new int[] {1, 19, 20, 21, 63}) {
            runs(t, n, 0, 2000, 0);
            for (int k = 0; k <= 21; k++) {
                due("output(" + k + ") of " + n, t.output(k), k < n && k < 20 ? n - k : NONE);
            }
        }
    }

    private static void outputIfThereIsNone() {
        sentence("output: ... NONE if there is none");
        RangeTeller t = loaded("1 1 0 0 GET 0 IF 0 CONST 63 OUTPUT CONST 0 OUTPUT END END");
        due("output(0) before a run", t.output(0), NONE);
        runs(t, 1, 0, 99, 0);
        due("output(0)", t.output(0), 63);
        due("output(1)", t.output(1), 0);
        due("output(2)", t.output(2), NONE);
        for (int k : OUTSIDE) {
            due("output(" + k + ")", t.output(k), NONE);
        }
        for (int k : new int[] {19, 20, 21, 64, MAX}) {
            due("output(" + k + ")", t.output(k), NONE);
        }
        runs(t, 0, 0, 99, 0);
        due("output(0) of a run that put nothing out", t.output(0), NONE);
        due("output(1) of a run that put nothing out", t.output(1), NONE);
    }

    // ---- promise 9: memory

    private static void memoryOfCells() {
        sentence("memory: A cell of the memory after the latest run");
        RangeTeller t = loaded("1 2 0 0 GET 0 GET 1 STORE 0 GET 1 IF 0 TRAP END END");
        runs(t, 0, 63, 99, 1);
        due("memory(0) behind a trap", t.memory(0), 63);
        runs(t, 15, 62, 99, 1);
        due("memory(0)", t.memory(0), 0);
        due("memory(15)", t.memory(15), 62);
        runs(t, 15, 61, 3, 5);
        due("memory(15) out of steps", t.memory(15), 61);
        runs(t, 15, 60, 2, 5);
        due("memory(15) before the STORE", t.memory(15), 0);
        runs(t, 15, 0, 99, 0);
        due("memory(15)", t.memory(15), 0);
    }

    private static void memoryBeforeRun() {
        sentence("memory: ... NONE if there was none since the load");
        RangeTeller t = new RangeTeller();
        due("memory(0) without a module", t.memory(0), NONE);
        load(t, "1 0 0 0 CONST 0 CONST 5 STORE 0 END", 4);
        due("memory(0) before a run", t.memory(0), NONE);
        due("memory(15) before a run", t.memory(15), NONE);
        runs(t, 0, 0, 99, 0);
        due("memory(0)", t.memory(0), 5);
        due("memory(15)", t.memory(15), 0);
        load(t, "1 0 0 0 END", 1);
        due("memory(0) before a run", t.memory(0), NONE);
    }

    private static void memoryOutside() {
        sentence("memory: ... NONE if ... k isn't 0 .. 15");
        RangeTeller t = loaded("1 0 0 0 END");
        runs(t, 0, 0, 99, 0);
        for (int k : OUTSIDE) {
            due("memory(" + k + ")", t.memory(k), NONE);
        }
        for (int k : new int[] {16, 17, 64, MAX}) {
            due("memory(" + k + ")", t.memory(k), NONE);
        }
        due("memory(0)", t.memory(0), 0);
        due("memory(15)", t.memory(15), 0);
    }

    // ---- promise 10: instruction

    private static void instructionOutside() {
        sentence("instruction: ... NONE if there is none");
        RangeTeller t = loaded("1 0 0 0 TRAP END");
        for (int what = 0; what <= 5; what++) {
            for (int k : OUTSIDE) {
                due("instruction(" + k + ", " + what + ")", t.instruction(k, what), NONE);
            }
            for (int k : new int[] {2, 3, 95, 96, 99, 100, 101, MAX}) {
                due("instruction(" + k + ", " + what + ")", t.instruction(k, what), NONE);
            }
        }
        due("instruction(0, 0)", t.instruction(0, 0), 0);
        due("instruction(1, 0)", t.instruction(1, 0), 5);
    }

    private static void instructionWhat() {
        sentence("instruction: ... NONE if ... what isn't 0 .. 5");
        RangeTeller t = loaded("1 0 0 0 TRAP END");
        for (int k = 0; k <= 1; k++) {
            for (int what : OUTSIDE) {
                due("instruction(" + k + ", " + what + ")", t.instruction(k, what), NONE);
            }
            for (int what : new int[] {6, 7, 64, MAX}) {
                due("instruction(" + k + ", " + what + ")", t.instruction(k, what), NONE);
            }
        }
    }

    private static void instructionOpAndArgument() {
        sentence("instruction: what 0 its op, 1 its argument (0 if it has none)");
        RangeTeller t = loaded("1 2 2 0 BLOCK 1 CONST 63 END DROP LOOP 0 INPUT BRANCHIF 1 END GET 3 TEE 2 LOAD 63 "
            + "INPUT STORE 32 RETURN DROP END");
        int[] ops = {1, 17, 5, 10, 2, 27, 7, 5, 12, 14, 15, 27, 16, 8, 10, 5};
        int[] arguments = {1, 63, 0, 0, 0, 0, 1, 0, 3, 2, 63, 0, 32, 0, 0, 0};
        for (int k = 0; k < ops.length; k++) {
            due("instruction(" + k + ", 0)", t.instruction(k, 0), ops[k]);
            due("instruction(" + k + ", 1)", t.instruction(k, 1), arguments[k]);
        }
        // The module before had arguments where this one has none.
        load(t, "1 0 0 0 " + times(16, "TRAP") + "END", 17);
        for (int k = 0; k < 16; k++) {
            due("instruction(" + k + ", 0)", t.instruction(k, 0), 0);
            due("instruction(" + k + ", 1)", t.instruction(k, 1), 0);
        }
    }

    private static void instructionReached() {
        sentence("instruction: ... 2 whether it is reached (1 or 0), 3 its FLAGS (0 if it isn't reached)");
        RangeTeller t = loaded("1 0 0 0 TRAP TRAP INPUT OUTPUT CONST 1 CONST 0 OVER LOAD 63 DROP END");
        due("instruction(0, 2)", t.instruction(0, 2), 1);
        due("instruction(0, 3)", t.instruction(0, 3), 1);
        for (int k = 1; k <= 9; k++) {
            due("instruction(" + k + ", 2)", t.instruction(k, 2), 0);
            due("instruction(" + k + ", 3)", t.instruction(k, 3), 0);
        }
        load(t, "1 0 0 0 INPUT OUTPUT CONST 1 CONST 0 OVER LOAD 63 DROP END", 8);
        int[] reached = {1, 1, 1, 1, 1, 0, 0, 0};
        int[] flags = {0, 8, 0, 0, 4, 0, 0, 0};
        for (int k = 0; k <= 7; k++) {
            due("instruction(" + k + ", 2)", t.instruction(k, 2), reached[k]);
            due("instruction(" + k + ", 3)", t.instruction(k, 3), flags[k]);
        }
    }

    private static void instructionBehindEnd() {
        sentence("instruction: ... 4 the instruction behind its END (for 1, 2, 3; for an ELSE that of its IF; "
            + "NONE for others)");
        RangeTeller t = loaded("2 0 0 0 BLOCK 0 LOOP 0 INPUT IF 0 INPUT IF 0 END ELSE BLOCK 0 END END END END "
            + "INPUT DROP END 0 0 0 LOOP 0 END END");
        int[] behind = {13, 12, NONE, 11, NONE, 7, NONE, 11, 10, NONE, NONE, NONE, NONE, NONE, NONE, NONE,
            18, NONE, NONE};
        for (int k = 0; k < behind.length; k++) {
            due("instruction(" + k + ", 4)", t.instruction(k, 4), behind[k]);
        }
        // Also where it isn't reached.
        t = loaded("1 0 0 0 TRAP BLOCK 0 END IF 0 ELSE END END");
        int[] dead = {NONE, 3, NONE, 6, 6, NONE, NONE};
        for (int k = 0; k < dead.length; k++) {
            due("instruction(" + k + ", 4)", t.instruction(k, 4), dead[k]);
        }
    }

    private static void instructionOperands() {
        sentence("instruction: ... 5 how many operands there are before it (NONE if it isn't reached)");
        RangeTeller t = loaded("2 0 0 0 " + times(10, "INPUT") + "CALL 1 TRAP DROP END 0 0 0 INPUT DROP END");
        for (int k = 0; k <= 10; k++) {
            due("instruction(" + k + ", 5)", t.instruction(k, 5), k);
        }
        due("instruction(11, 5)", t.instruction(11, 5), 10);
        due("instruction(12, 5)", t.instruction(12, 5), NONE);
        due("instruction(13, 5)", t.instruction(13, 5), NONE);
        due("instruction(14, 5) of another function", t.instruction(14, 5), 0);
        due("instruction(15, 5)", t.instruction(15, 5), 1);
        due("instruction(16, 5)", t.instruction(16, 5), 0);
        // Behind a branch there is what was at the base and what the frame needs.
        t = loaded("1 0 0 0 INPUT BLOCK 1 INPUT INPUT INPUT BRANCH 0 END PLUS DROP END");
        int[] heights = {0, 1, 1, 2, 3, 4, NONE, 2, 1, 0};
        for (int k = 0; k < heights.length; k++) {
            due("instruction(" + k + ", 5)", t.instruction(k, 5), heights[k]);
        }
    }

    // ---- promise 11: operand

    private static void operandFromTheTop() {
        sentence("operand: The range of operand i (0 on top) before instruction k: least + 64 * greatest + 4096 "
            + "if it is tainted");
        RangeTeller t = loaded("1 1 0 0 CONST 0 CONST 1 CONST 2 CONST 63 GET 0 INPUT CONST 6 CONST 7 CONST 8 CONST 9 "
            + "TRAP END");
        int[] want = {range(9, 9), range(8, 8), range(7, 7), range(6, 6), ALL + TAINT, ALL, range(63, 63), range(2, 2),
            range(1, 1), range(0, 0)};
        for (int i = 0; i < 10; i++) {
            due("operand(10, " + i + ")", t.operand(10, i), want[i]);
            due("operand(5, " + i + ")", t.operand(5, i), i < 5 ? want[i + 5] : NONE);
        }
        due("operand(10, 10)", t.operand(10, 10), NONE);
        // Nor is the one below the last of the next instruction meant by -1.
        t = loaded("1 0 0 0 " + times(10, "INPUT") + times(10, "DROP") + "END");
        for (int k = 9; k <= 11; k++) {
            due("operand(" + k + ", -1)", t.operand(k, -1), NONE);
            due("operand(" + k + ", 10)", t.operand(k, 10), NONE);
        }
        t = loaded("1 1 0 0 INPUT CONST 0 BOTH DROP END");
        due("operand(3, 0), which is 0 and tainted", t.operand(3, 0), 4096);
    }

    private static void operandIfThereIsNone() {
        sentence("operand: ... NONE if there is none or it isn't reached");
        RangeTeller t = loaded("1 1 0 0 CONST 5 INPUT TRAP CONST 6 DROP END");
        for (int i : OUTSIDE) {
            due("operand(2, " + i + ")", t.operand(2, i), NONE);
        }
        for (int i : new int[] {2, 3, 9, 10, 11, 64, MAX}) {
            due("operand(2, " + i + ")", t.operand(2, i), NONE);
        }
        due("operand(2, 1)", t.operand(2, 1), range(5, 5));
        due("operand(0, 0)", t.operand(0, 0), NONE);
        due("operand(4, 0), which isn't reached", t.operand(4, 0), NONE);
        for (int k : OUTSIDE) {
            due("operand(" + k + ", 0)", t.operand(k, 0), NONE);
        }
        for (int k : new int[] {6, 7, 99, 100, 101, MAX}) {
            due("operand(" + k + ", 0)", t.operand(k, 0), NONE);
        }
    }

    // ---- promise 12: local

    private static void localOfEach() {
        sentence("local: The range of local i before instruction k, as with operand");
        RangeTeller t = loaded("2 2 2 0 INPUT SET 2 CONST 63 TEE 3 SET 0 CALL 1 END 0 1 0 CONST 4 SET 0 END");
        due("local(0, 0)", t.local(0, 0), ALL);
        due("local(0, 2)", t.local(0, 2), 0);
        due("local(1, 2) before the SET", t.local(1, 2), 0);
        due("local(2, 2) behind the SET", t.local(2, 2), ALL + TAINT);
        due("local(3, 3) before the TEE", t.local(3, 3), 0);
        due("local(4, 3) behind the TEE", t.local(4, 3), range(63, 63));
        due("local(4, 0)", t.local(4, 0), ALL);
        due("local(5, 0)", t.local(5, 0), range(63, 63));
        due("local(6, 1)", t.local(6, 1), ALL);
        due("local(6, 2)", t.local(6, 2), ALL + TAINT);
        due("local(7, 0) of another function", t.local(7, 0), 0);
        due("local(9, 0) of another function", t.local(9, 0), range(4, 4));
        due("local(9, 1) of another function", t.local(9, 1), NONE);
    }

    private static void localIfThereIsNone() {
        sentence("local: ... NONE if there is none or it isn't reached");
        RangeTeller four = loaded("1 2 2 0 INPUT DROP END");
        for (int k = 0; k < 3; k++) {
            due("local(" + k + ", -1)", four.local(k, -1), NONE);
            due("local(" + k + ", 3)", four.local(k, 3), 0);
            due("local(" + k + ", 4)", four.local(k, 4), NONE);
        }
        for (int parameters = 0; parameters <= 2; parameters++) {
            for (int more = 0; more <= 2; more++) {
                RangeTeller t = loaded("1 " + parameters + " " + more + " 0 RETURN END");
                for (int i = 0; i <= 5; i++) {
                    int want = i < parameters ? ALL : i < parameters + more ? 0 : NONE;
                    due("local(0, " + i + ")", t.local(0, i), want);
                    due("local(1, " + i + "), which isn't reached", t.local(1, i), NONE);
                }
                for (int i : OUTSIDE) {
                    due("local(0, " + i + ")", t.local(0, i), NONE);
                    due("local(" + i + ", 0)", t.local(i, 0), NONE);
                }
                for (int i : new int[] {6, 64, 100, MAX}) {
                    due("local(0, " + i + ")", t.local(0, i), NONE);
                    due("local(" + i + ", 0)", t.local(i, 0), NONE);
                }
            }
        }
    }

    // ---- promise 13: cell

    private static void cellOfEach() {
        sentence("cell: The range of a cell of the memory, as with operand");
        RangeTeller t = loaded("1 1 0 0 CONST 0 CONST 63 STORE 0 CONST 14 INPUT STORE 0 CONST 15 CONST 1 STORE 0 TRAP "
            + "CONST 7 CONST 1 STORE 0 END");
        for (int k = 0; k < 16; k++) {
            int want = k == 0 ? range(0, 63) : k == 14 ? ALL + TAINT : k == 15 ? range(0, 1) : 0;
            due("cell(" + k + ")", t.cell(k), want);
        }
        // It is told of the module, whatever was run.
        runs(t, 0, 0, 3, 5);
        due("cell(0)", t.cell(0), range(0, 63));
        due("cell(15)", t.cell(15), range(0, 1));
    }

    private static void cellIfThereIsNone() {
        sentence("cell: ... NONE if there is no module or cell");
        RangeTeller t = new RangeTeller();
        due("cell(0) without a module", t.cell(0), NONE);
        due("cell(15) without a module", t.cell(15), NONE);
        load(t, "1 0 0 0 END", 1);
        due("cell(0)", t.cell(0), 0);
        due("cell(15)", t.cell(15), 0);
        for (int k : OUTSIDE) {
            due("cell(" + k + ")", t.cell(k), NONE);
        }
        for (int k : new int[] {16, 17, 64, MAX}) {
            due("cell(" + k + ")", t.cell(k), NONE);
        }
        load(t, "1 0 0 0 DROP END", INVALID);
        due("cell(0) without a module", t.cell(0), NONE);
    }

    // ---- promise 14: function

    private static void functionOutside() {
        sentence("function: ... NONE if there is none");
        String more = "";
        for (int functions = 1; functions <= 3; functions++) {
            RangeTeller t = loaded(functions + " 0 0 0 END" + more);
            for (int what = 0; what <= 5; what++) {
                for (int f : OUTSIDE) {
                    due("function(" + f + ", " + what + ")", t.function(f, what), NONE);
                }
                for (int f : new int[] {functions, functions + 1, 3, 4, 64, MAX}) {
                    due("function(" + f + ", " + what + ")", t.function(f, what), NONE);
                }
            }
            due("function(last, 0)", t.function(functions - 1, 0), functions - 1);
            more += " 0 0 0 END";
        }
        due("function(0, 0) without a module", new RangeTeller().function(0, 0), NONE);
    }

    private static void functionWhat() {
        sentence("function: ... NONE if ... what isn't 0 .. 5");
        RangeTeller t = loaded("2 0 0 0 END 0 0 0 END");
        for (int f = 0; f <= 1; f++) {
            for (int what : OUTSIDE) {
                due("function(" + f + ", " + what + ")", t.function(f, what), NONE);
            }
            for (int what : new int[] {6, 7, 64, MAX}) {
                due("function(" + f + ", " + what + ")", t.function(f, what), NONE);
            }
        }
    }

    private static void functionCounts() {
        sentence("function: what 0 its first instruction, 1 how many parameters, 2 locals (without parameters), "
            + "3 results it has");
        RangeTeller t = loaded("3 2 0 1 CONST 63 END 0 2 0 INPUT DROP END 1 1 1 GET 0 END");
        int[][] want = {{0, 2, 0, 1}, {2, 0, 2, 0}, {5, 1, 1, 1}};
        for (int f = 0; f < 3; f++) {
            for (int what = 0; what <= 3; what++) {
                due("function(" + f + ", " + what + ")", t.function(f, what), want[f][what]);
            }
        }
    }

    private static void functionResult() {
        sentence("function: ... 4 the range of its result, as with operand (NONE if it has none or gives none)");
        RangeTeller t = loaded("3 0 0 0 CALL 1 DROP CALL 2 DROP END 0 0 1 INPUT CONST 0 BOTH END 0 0 1 TRAP END");
        due("function(0, 4), which has none", t.function(0, 4), NONE);
        due("function(1, 4)", t.function(1, 4), TAINT);
        due("function(2, 4), which gives none", t.function(2, 4), NONE);
        t = loaded("2 0 0 1 CONST 0 END 0 0 1 CONST 5 END");
        due("function(0, 4)", t.function(0, 4), 0);
        due("function(1, 4), which isn't reached", t.function(1, 4), NONE);
        t = loaded("1 1 0 1 GET 0 END");
        due("function(0, 4)", t.function(0, 4), ALL);
    }

    private static void functionCanEnd() {
        sentence("function: ... 5 whether it CAN END (1 or 0)");
        RangeTeller t = loaded("3 0 0 0 CALL 1 CALL 2 END 0 0 0 END 0 0 0 TRAP END");
        due("function(0, 5)", t.function(0, 5), 0);
        due("function(1, 5)", t.function(1, 5), 1);
        due("function(2, 5)", t.function(2, 5), 0);
        load(t, "3 0 0 0 CALL 1 END 0 0 0 END 0 0 0 END", 4);
        due("function(0, 5)", t.function(0, 5), 1);
        due("function(1, 5)", t.function(1, 5), 1);
        due("function(2, 5), which isn't reached", t.function(2, 5), 0);
        load(t, "3 0 0 0 CALL 1 END 0 0 0 CALL 2 END 0 0 0 TRAP END", 6);
        for (int f = 0; f < 3; f++) {
            due("function(" + f + ", 5)", t.function(f, 5), 0);
        }
    }

    // ---- all of them

    private static void askingChangesNothing() {
        sentence("Nothing is promised beyond the answers and state changes described above");
        RangeTeller t = loaded("1 1 0 1 INPUT GET 0 PLUS END");
        for (int round = 0; round < 3; round++) {
            due("input(7)", t.input(7), 1);
            t.place();
            t.instruction(1, 5);
            t.operand(2, 0);
            t.local(2, 0);
            t.cell(3);
            t.function(0, 4);
            t.outcome(0);
            t.output(0);
            t.memory(0);
            runs(t, 5, 0, 99, 0);
            outcomes(t, 12, NONE, 4, 0);
            due("instruction(2, 5)", t.instruction(2, 5), 2);
            due("operand(2, 0)", t.operand(2, 0), ALL);
            due("operand(2, 1)", t.operand(2, 1), ALL + TAINT);
            due("function(0, 4)", t.function(0, 4), ALL + TAINT);
            due("memory(0)", t.memory(0), 0);
        }
    }
}
