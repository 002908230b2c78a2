/** The boundary cases that the sentences on VALUES, MEMORY and RUNNING name, each by itself. */
public final class RunningEdgesTest extends Bench {
    public static void main(String[] args) {
        sums();
        differences();
        products();
        quotients();
        rests();
        comparisons();
        bitsAndNot();
        memoryBegins();
        memoryHasSixteenCells();
        parametersAndLocals();
        blockLeavesOperands();
        ifWithElse();
        ifWithoutElse();
        branchBehindEnd();
        branchToLoop();
        branchToFunction();
        branchKeepsWhatIsNeeded();
        branchIf();
        resultsToTheCaller();
        pick();
        setAndTee();
        whatIsTakenIsGone();
        tenOperandsInEachCall();
        addressOfLoad();
        addressOfStore();
        storeTakesValueThenAddress();
        inputs();
        outputs();
        trapByTrap();
        trapByZero();
        trapByCalls();
        callsThatAreEnded();
        trapsDoNothingElse();
        trappingIsAStep();
        outOfSteps();
        finish();
    }

    // ---- VALUES

    private static void sums() {
        sentence("sums ... are taken modulo 64");
        gives("GET 0 GET 1 PLUS", 0, 0, 0);
        gives("GET 0 GET 1 PLUS", 62, 1, 63);
        gives("GET 0 GET 1 PLUS", 63, 1, 0);
        gives("GET 0 GET 1 PLUS", 1, 63, 0);
        gives("GET 0 GET 1 PLUS", 63, 2, 1);
        gives("GET 0 GET 1 PLUS", 32, 32, 0);
        gives("GET 0 GET 1 PLUS", 63, 63, 62);
    }

    private static void differences() {
        sentence("differences ... are taken modulo 64");
        gives("GET 0 GET 1 MINUS", 0, 0, 0);
        gives("GET 0 GET 1 MINUS", 63, 0, 63);
        gives("GET 0 GET 1 MINUS", 63, 63, 0);
        gives("GET 0 GET 1 MINUS", 1, 1, 0);
        gives("GET 0 GET 1 MINUS", 0, 1, 63);
        gives("GET 0 GET 1 MINUS", 0, 63, 1);
        gives("GET 0 GET 1 MINUS", 62, 63, 63);
    }

    private static void products() {
        sentence("products are taken modulo 64");
        gives("GET 0 GET 1 TIMES", 0, 63, 0);
        gives("GET 0 GET 1 TIMES", 1, 63, 63);
        gives("GET 0 GET 1 TIMES", 7, 9, 63);
        gives("GET 0 GET 1 TIMES", 8, 8, 0);
        gives("GET 0 GET 1 TIMES", 5, 13, 1);
        gives("GET 0 GET 1 TIMES", 32, 2, 0);
        gives("GET 0 GET 1 TIMES", 63, 2, 62);
        gives("GET 0 GET 1 TIMES", 63, 63, 1);
    }

    private static void quotients() {
        sentence("With q on top and p below: ... p / q");
        gives("GET 0 GET 1 OVER", 63, 1, 63);
        gives("GET 0 GET 1 OVER", 63, 63, 1);
        gives("GET 0 GET 1 OVER", 62, 63, 0);
        gives("GET 0 GET 1 OVER", 0, 1, 0);
        gives("GET 0 GET 1 OVER", 0, 63, 0);
        gives("GET 0 GET 1 OVER", 63, 2, 31);
        gives("GET 0 GET 1 OVER", 63, 32, 1);
    }

    private static void rests() {
        sentence("the rest of p / q");
        gives("GET 0 GET 1 REST", 63, 1, 0);
        gives("GET 0 GET 1 REST", 63, 63, 0);
        gives("GET 0 GET 1 REST", 62, 63, 62);
        gives("GET 0 GET 1 REST", 0, 1, 0);
        gives("GET 0 GET 1 REST", 0, 63, 0);
        gives("GET 0 GET 1 REST", 63, 2, 1);
        gives("GET 0 GET 1 REST", 63, 32, 31);
    }

    private static void comparisons() {
        sentence("SAME, LESS (p below q): 1 or 0");
        gives("GET 0 GET 1 SAME", 0, 0, 1);
        gives("GET 0 GET 1 SAME", 63, 63, 1);
        gives("GET 0 GET 1 SAME", 0, 63, 0);
        gives("GET 0 GET 1 SAME", 63, 62, 0);
        gives("GET 0 GET 1 LESS", 0, 0, 0);
        gives("GET 0 GET 1 LESS", 0, 1, 1);
        gives("GET 0 GET 1 LESS", 1, 0, 0);
        gives("GET 0 GET 1 LESS", 0, 63, 1);
        gives("GET 0 GET 1 LESS", 63, 0, 0);
        gives("GET 0 GET 1 LESS", 62, 63, 1);
        gives("GET 0 GET 1 LESS", 63, 63, 0);
    }

    private static void bitsAndNot() {
        sentence("the bits that both have; NOT: 1 if it is 0, else 0");
        gives("GET 0 GET 1 BOTH", 63, 63, 63);
        gives("GET 0 GET 1 BOTH", 63, 0, 0);
        gives("GET 0 GET 1 BOTH", 32, 31, 0);
        gives("GET 0 GET 1 BOTH", 63, 42, 42);
        gives("GET 0 NOT", 0, 0, 1);
        gives("GET 0 NOT", 1, 0, 0);
        gives("GET 0 NOT", 63, 0, 0);
    }

    // ---- MEMORY

    private static void memoryBegins() {
        sentence("MEMORY has 16 cells, each a value, 0 when a run begins.");
        RangeTeller t = loaded("1 2 0 1 CONST 3 GET 0 STORE 0 CONST 5 LOAD 0 CONST 5 CONST 9 STORE 0 END");
        for (int round = 0; round < 2; round++) {
            runs(t, 63, 0, 99, 0);
            due("outcome(0)", t.outcome(0), 0);
            due("memory(3)", t.memory(3), 63);
            due("memory(5)", t.memory(5), 9);
        }
        runs(t, 63, 0, 0, 5);
        for (int k = 0; k < 16; k++) {
            due("memory(" + k + ")", t.memory(k), 0);
        }
    }

    private static void memoryHasSixteenCells() {
        sentence("MEMORY has 16 cells");
        RangeTeller t = loaded("1 2 0 1 LOOP 0 GET 0 GET 0 CONST 40 PLUS STORE 0 GET 0 CONST 1 PLUS TEE 0 GET 1 LESS "
            + "BRANCHIF 0 END GET 1 CONST 1 MINUS LOAD 0 END");
        runs(t, 0, 16, 2000, 0);
        due("outcome(0)", t.outcome(0), 55);
        for (int k = 0; k < 16; k++) {
            due("memory(" + k + ")", t.memory(k), 40 + k);
        }
        runs(t, 0, 17, 2000, 2);
        due("memory(15)", t.memory(15), 55);
    }

    // ---- functions and frames

    private static void parametersAndLocals() {
        sentence("A function begins with its parameters, the first one lowest when it is called, its other locals 0.");
        String three = "2 0 0 1 CONST 7 CONST 20 CONST 3 CALL 1 MINUS END ";
        RangeTeller t = loaded(three + "2 0 1 GET 0 GET 1 MINUS END");
        runs(t, 0, 0, 99, 0);
        due("outcome(0)", t.outcome(0), (7 - 17 + 64) % 64);
        // The locals are 0 at each call, whatever an earlier call left in them.
        t = loaded("2 0 0 1 CALL 1 CALL 1 PLUS END 0 2 1 GET 0 GET 1 PLUS CONST 9 TEE 0 SET 1 END");
        runs(t, 0, 0, 99, 0);
        due("outcome(0)", t.outcome(0), 0);
        // The caller's locals are its own.
        t = loaded("2 1 1 1 CONST 4 SET 1 CONST 8 CALL 1 GET 0 GET 1 PLUS END 1 1 0 CONST 50 SET 0 CONST 60 SET 1 END");
        runs(t, 3, 0, 99, 0);
        due("outcome(0)", t.outcome(0), 7);
    }

    private static void blockLeavesOperands() {
        sentence("BLOCK: the operands stay");
        gives("GET 0 GET 1 BLOCK 0 END MINUS", 9, 4, 5);
        gives("GET 0 LOOP 1 GET 1 END MINUS", 9, 4, 5);
        gives("GET 0 GET 1 CONST 1 IF 0 END MINUS", 9, 4, 5);
    }

    private static void steps(String text, int x, int result, int steps) {
        RangeTeller t = loaded(text);
        runs(t, x, 0, 2000, 0);
        outcomes(t, result, NONE, steps, 0);
    }

    private static void ifWithElse() {
        sentence("IF takes the condition: 0: goes on behind its ELSE; ELSE (reached from above) goes on behind the "
            + "END of its IF");
        String text = "1 1 0 1 GET 0 IF 1 CONST 3 ELSE CONST 4 END END";
        steps(text, 0, 4, 5);
        steps(text, 1, 3, 5);
        steps(text, 63, 3, 5);
        // Neither the ELSE of another IF nor the END of another frame.
        text = "1 1 0 1 GET 0 IF 1 BLOCK 0 CONST 1 IF 0 ELSE END END CONST 3 ELSE CONST 4 END END";
        steps(text, 0, 4, 5);
        steps(text, 1, 3, 10);
    }

    private static void ifWithoutElse() {
        sentence("IF takes the condition: 0: goes on ... behind its END if there is none");
        String text = "1 1 0 0 GET 0 IF 0 CONST 3 DROP END END";
        steps(text, 0, NONE, 3);
        steps(text, 1, NONE, 6);
        steps(text, 63, NONE, 6);
        steps("1 1 0 0 GET 0 IF 0 END END", 0, NONE, 3);
        steps("1 1 0 0 GET 0 IF 0 END END", 1, NONE, 4);
    }

    private static void branchBehindEnd() {
        sentence("BRANCH goes on behind the END of frame n");
        steps("1 1 0 0 BLOCK 0 BRANCH 0 TRAP END END", 0, NONE, 3);
        steps("1 1 0 0 BLOCK 0 BLOCK 0 BRANCH 0 TRAP END END END", 0, NONE, 5);
        steps("1 1 0 0 BLOCK 0 BLOCK 0 BRANCH 1 TRAP END TRAP END END", 0, NONE, 4);
        steps("1 1 0 0 GET 0 IF 0 BRANCH 0 ELSE BRANCH 0 END END", 0, NONE, 4);
        steps("1 1 0 0 GET 0 IF 0 BRANCH 0 ELSE BRANCH 0 END END", 1, NONE, 4);
    }

    private static void branchToLoop() {
        sentence("BRANCH goes on ... (for a LOOP at its first instruction inside)");
        RangeTeller t = loaded("1 0 0 0 LOOP 0 BRANCH 0 END END");
        runs(t, 0, 0, 1, 5);
        due("outcome(1)", t.outcome(1), 1);
        runs(t, 0, 0, 2, 5);
        due("outcome(1)", t.outcome(1), 1);
        runs(t, 0, 0, 3, 5);
        due("outcome(1)", t.outcome(1), 1);
        // Behind the END of the LOOP it comes by the END alone, once.
        steps("1 1 0 0 LOOP 0 GET 0 CONST 1 MINUS TEE 0 BRANCHIF 0 END END", 1, NONE, 8);
        steps("1 1 0 0 LOOP 0 GET 0 CONST 1 MINUS TEE 0 BRANCHIF 0 END END", 2, NONE, 13);
        steps("1 1 0 0 LOOP 0 BLOCK 0 GET 0 CONST 1 MINUS TEE 0 BRANCHIF 1 END END END", 2, NONE, 16);
        // What was on the stack above the base is gone.
        gives("CONST 5 LOOP 1 CONST 6 CONST 7 GET 0 CONST 1 MINUS TEE 0 BRANCHIF 0 PLUS END MINUS", 3, 0, 64 + 5 - 13);
    }

    private static void branchToFunction() {
        sentence("BRANCH goes on ... (for the function it ends)");
        steps("1 1 0 1 CONST 9 BRANCH 0 END", 0, 9, 2);
        steps("1 1 0 1 BLOCK 0 CONST 9 BRANCH 1 END TRAP END", 0, 9, 3);
        steps("1 1 0 1 CONST 9 GET 0 BRANCHIF 0 TRAP END", 1, 9, 3);
        steps("2 1 0 1 CALL 1 CONST 1 PLUS END 0 0 1 LOOP 0 CONST 9 BRANCH 1 END TRAP END", 0, 10, 7);
    }

    private static void branchKeepsWhatIsNeeded() {
        sentence("what frame n needs stays on top of what was there at its base");
        gives("CONST 50 BLOCK 1 CONST 1 CONST 2 CONST 3 BRANCH 0 END MINUS", 0, 0, 47);
        gives("CONST 50 BLOCK 0 CONST 1 CONST 2 CONST 3 BRANCH 0 END", 0, 0, 50);
        gives("CONST 50 BLOCK 1 CONST 1 BLOCK 0 CONST 2 CONST 3 BRANCH 1 END END MINUS", 0, 0, 47);
        gives("CONST 50 BLOCK 1 CONST 1 CONST 2 CONST 3 GET 0 BRANCHIF 0 PLUS PLUS END MINUS", 1, 0, 47);
        gives("CONST 50 BLOCK 1 CONST 1 CONST 2 CONST 3 GET 0 BRANCHIF 0 PLUS PLUS END MINUS", 0, 0, 44);
        gives("CONST 50 GET 0 IF 1 CONST 1 CONST 2 BRANCH 0 ELSE CONST 3 CONST 4 BRANCH 0 END MINUS", 1, 0, 48);
        gives("CONST 50 GET 0 IF 1 CONST 1 CONST 2 BRANCH 0 ELSE CONST 3 CONST 4 BRANCH 0 END MINUS", 0, 0, 46);
    }

    private static void branchIf() {
        sentence("BRANCH IF takes the condition and branches if it isn't 0.");
        gives("BLOCK 0 GET 0 BRANCHIF 0 CONST 8 RETURN END CONST 9", 0, 0, 8);
        gives("BLOCK 0 GET 0 BRANCHIF 0 CONST 8 RETURN END CONST 9", 1, 0, 9);
        gives("BLOCK 0 GET 0 BRANCHIF 0 CONST 8 RETURN END CONST 9", 63, 0, 9);
    }

    private static void resultsToTheCaller() {
        sentence("RETURN, and the function's END: the results are given to the caller.");
        for (String way : new String[] {"", "RETURN", "BRANCH 0"}) {
            RangeTeller t = loaded("2 0 0 1 CONST 50 CALL 1 MINUS END 0 0 1 CONST 8 " + way + " END");
            runs(t, 0, 0, 99, 0);
            outcomes(t, 42, NONE, 6, 0);
        }
        // What lies below the results of the function is gone with it.
        RangeTeller t = loaded("2 0 0 1 CONST 50 CALL 1 MINUS END 0 0 1 CONST 6 CONST 7 CONST 8 RETURN END");
        runs(t, 0, 0, 99, 0);
        due("outcome(0)", t.outcome(0), 42);
        t = loaded("2 0 0 1 CONST 50 CALL 1 END 0 0 0 CONST 6 CONST 7 RETURN END");
        runs(t, 0, 0, 99, 0);
        due("outcome(0)", t.outcome(0), 50);
    }

    // ---- operations

    private static void pick() {
        sentence("PICK: takes c, b, a (c on top), gives a if c isn't 0, else b.");
        gives("CONST 11 CONST 22 GET 0 PICK", 0, 0, 22);
        gives("CONST 11 CONST 22 GET 0 PICK", 1, 0, 11);
        gives("CONST 11 CONST 22 GET 0 PICK", 63, 0, 11);
        gives("CONST 40 CONST 11 CONST 22 GET 0 PICK MINUS", 0, 0, 18);
    }

    private static void setAndTee() {
        sentence("TEE: as SET, but the operand stays.");
        gives("CONST 40 CONST 5 SET 2 GET 2 MINUS", 0, 0, 35);
        gives("CONST 40 CONST 5 TEE 2 MINUS GET 2 MINUS", 0, 0, 30);
        gives("CONST 40 CONST 5 SET 0 GET 0 MINUS", 9, 0, 35);
        gives("CONST 63 TEE 3 GET 3 SAME", 0, 0, 1);
    }

    private static void whatIsTakenIsGone() {
        sentence("DROP takes 1. SET takes 1. STORE takes 2. OUTPUT takes 1. IF takes 1. BRANCH IF takes 1. CALL takes "
            + "f's parameters.");
        gives("CONST 50 CONST 6 DROP", 0, 0, 50);
        gives("CONST 50 CONST 6 SET 3", 0, 0, 50);
        gives("CONST 50 CONST 6 CONST 7 STORE 3", 0, 0, 50);
        gives("CONST 50 CONST 6 OUTPUT", 0, 0, 50);
        gives("CONST 50 CONST 6 IF 0 END", 0, 0, 50);
        gives("CONST 50 BLOCK 0 CONST 0 BRANCHIF 0 END", 0, 0, 50);
        gives("CONST 50 CONST 40 CONST 6 DROP MINUS", 0, 0, 10);
        gives("CONST 50 CONST 40 CONST 6 CONST 7 STORE 3 MINUS", 0, 0, 10);
        gives("CONST 50 CONST 40 CONST 6 OUTPUT MINUS", 0, 0, 10);
        gives("CONST 50 CONST 40 CONST 6 SET 3 MINUS", 0, 0, 10);
        gives("CONST 50 CONST 40 CONST 0 BRANCHIF 0 MINUS", 0, 0, 10);
        gives("CONST 50 CONST 6 LOAD 0 MINUS", 0, 0, 50);
        gives("CONST 50 CONST 6 NOT MINUS", 0, 0, 50);
        gives("CONST 50 CONST 6 CONST 2 OVER MINUS", 0, 0, 47);
        RangeTeller t = loaded("2 0 0 1 CONST 50 CONST 40 CONST 1 CONST 2 CALL 1 MINUS END 2 0 0 END");
        runs(t, 0, 0, 99, 0);
        due("outcome(0)", t.outcome(0), 10);
    }

    private static void tenOperandsInEachCall() {
        sentence("the height ... may not become more than 10; a CALL within 6 calls (so 70 operands at most)");
        RangeTeller t = loaded("1 0 0 0 " + times(10, "INPUT") + "CALL 0 TRAP END");
        runs(t, 0, 0, 999, 4);
        outcomes(t, NONE, 10, 77, 0);
        // Function 1 holds 10 operands while it calls, and adds them to what it is given.
        t = loaded("2 1 0 1 GET 0 CALL 1 END 1 0 1 GET 0 NOT IF 0 CONST 0 RETURN END GET 0 CONST 1 MINUS SET 0 "
            + times(9, "CONST 1") + "GET 0 CALL 1 " + times(9, "PLUS") + "END");
        runs(t, 5, 0, 999, 0);
        due("outcome(0)", t.outcome(0), 45);
        runs(t, 6, 0, 999, 4);
    }

    // ---- cells

    private static void loads(int address, int offset, int want) {
        RangeTeller t = loaded("1 1 0 1 GET 0 LOAD " + offset + " END");
        runs(t, address, 0, 99, want);
        outcomes(t, want == 0 ? 0 : NONE, want == 0 ? NONE : 1, want == 0 ? 3 : 2, 0);
    }

    private static void addressOfLoad() {
        sentence("LOAD o takes an address a: cell a + o. TRAPS: 2 a cell above 15");
        loads(0, 0, 0);
        loads(15, 0, 0);
        loads(16, 0, 2);
        loads(63, 0, 2);
        loads(0, 15, 0);
        loads(0, 16, 2);
        loads(0, 63, 2);
        loads(7, 8, 0);
        loads(8, 8, 2);
        // The sum of an address and an offset doesn't wrap around.
        loads(63, 1, 2);
        loads(1, 63, 2);
        loads(32, 32, 2);
        loads(63, 16, 2);
        loads(63, 63, 2);
        gives("CONST 15 GET 0 STORE 0 CONST 15 LOAD 0", 44, 0, 44);
        gives("CONST 0 GET 0 STORE 15 CONST 7 LOAD 8", 44, 0, 44);
        gives("CONST 0 GET 0 STORE 0 CONST 0 LOAD 0", 44, 0, 44);
    }

    private static void stores(int address, int offset, int cell) {
        RangeTeller t = loaded("1 1 0 0 GET 0 CONST 63 STORE " + offset + " END");
        runs(t, address, 0, 99, cell < 0 ? 2 : 0);
        outcomes(t, NONE, cell < 0 ? 2 : NONE, cell < 0 ? 3 : 4, 0);
        for (int k = 0; k < 16; k++) {
            due("memory(" + k + ")", t.memory(k), k == cell ? 63 : 0);
        }
    }

    private static void addressOfStore() {
        sentence("STORE o ...: cell a + o. TRAPS: 2 a cell above 15");
        stores(0, 0, 0);
        stores(15, 0, 15);
        stores(16, 0, -1);
        stores(63, 0, -1);
        stores(0, 15, 15);
        stores(0, 16, -1);
        stores(0, 63, -1);
        stores(7, 8, 15);
        stores(8, 8, -1);
        stores(63, 1, -1);
        stores(1, 63, -1);
        stores(32, 32, -1);
        stores(63, 63, -1);
    }

    private static void storeTakesValueThenAddress() {
        sentence("STORE o takes a value, then an address.");
        RangeTeller t = loaded("1 2 0 0 GET 0 GET 1 STORE 0 END");
        runs(t, 3, 16, 99, 0);
        due("memory(3)", t.memory(3), 16);
        runs(t, 16, 3, 99, 2);
    }

    // ---- inputs and outputs

    private static void inputs() {
        sentence("INPUT gives the next input, 0 if there is none.");
        RangeTeller t = loaded("1 0 0 0 INPUT OUTPUT INPUT OUTPUT INPUT OUTPUT END");
        due("input(63)", t.input(63), 1);
        due("input(5)", t.input(5), 2);
        runs(t, 0, 0, 99, 0);
        due("output(0)", t.output(0), 63);
        due("output(1)", t.output(1), 5);
        due("output(2)", t.output(2), 0);
        runs(t, 0, 0, 99, 0);
        due("output(0)", t.output(0), 0);
    }

    private static void outputs() {
        sentence("OUTPUT takes what is put out.");
        RangeTeller t = loaded("1 2 0 1 GET 0 GET 1 OUTPUT END");
        runs(t, 7, 63, 99, 0);
        outcomes(t, 7, NONE, 4, 1);
        due("output(0)", t.output(0), 63);
    }

    // ---- traps

    private static void trapByTrap() {
        sentence("TRAPS: 1 TRAP");
        RangeTeller t = loaded("1 0 0 1 TRAP END");
        runs(t, 0, 0, 99, 1);
        outcomes(t, NONE, 0, 1, 0);
    }

    private static void trapByZero() {
        sentence("TRAPS: 3 OVER or REST by 0");
        for (String op : new String[] {"OVER", "REST"}) {
            RangeTeller t = loaded("1 2 0 1 GET 0 GET 1 " + op + " END");
            runs(t, 0, 0, 99, 3);
            outcomes(t, NONE, 2, 3, 0);
            runs(t, 63, 0, 99, 3);
            runs(t, 63, 64, 99, 3);
            runs(t, 0, 1, 99, 0);
            runs(t, 63, 1, 99, 0);
        }
    }

    private static void trapByCalls() {
        sentence("TRAPS: 4 a CALL within 6 calls that aren't ended (function 0 itself isn't called)");
        // Function 0 calls itself as often as its parameter says.
        RangeTeller t = loaded("1 1 0 1 GET 0 IF 1 GET 0 CONST 1 MINUS CALL 0 CONST 1 PLUS ELSE CONST 0 END END");
        for (int calls = 0; calls <= 6; calls++) {
            runs(t, calls, 0, 2000, 0);
            outcomes(t, calls, NONE, 10 * calls + 5, 0);
        }
        runs(t, 7, 0, 2000, 4);
        outcomes(t, NONE, 5, 42, 0);
        runs(t, 63, 0, 2000, 4);
        outcomes(t, NONE, 5, 42, 0);
        // Calls of different functions count together.
        t = loaded("3 0 0 0 CALL 1 END 0 0 0 CALL 2 END 0 0 0 CALL 1 END");
        runs(t, 0, 0, 2000, 4);
        outcomes(t, NONE, 4, 7, 0);
    }

    private static void callsThatAreEnded() {
        sentence("a CALL within 6 calls that aren't ended");
        for (String end : new String[] {"", "RETURN", "BRANCH 0"}) {
            RangeTeller t = loaded("2 0 0 0 " + times(8, "CALL 1") + "END 0 0 0 " + end + " END");
            runs(t, 0, 0, 99, 0);
            due("outcome(2)", t.outcome(2), 17);
        }
        // A run that ended within calls leaves none of them to the next one.
        RangeTeller t = loaded("2 1 0 0 GET 0 CALL 1 END 1 0 0 GET 0 IF 0 GET 0 CONST 1 MINUS CALL 1 END END");
        runs(t, 6, 0, 99, 4);
        runs(t, 5, 0, 99, 0);
        runs(t, 5, 0, 20, 5);
        runs(t, 5, 0, 99, 0);
    }

    private static void trapsDoNothingElse() {
        sentence("The instruction that traps does nothing else.");
        RangeTeller t = loaded("1 1 0 0 CONST 15 CONST 7 STORE 0 CONST 15 GET 0 STORE 1 END");
        runs(t, 9, 0, 99, 2);
        outcomes(t, NONE, 5, 6, 0);
        for (int k = 0; k < 16; k++) {
            due("memory(" + k + ")", t.memory(k), k == 15 ? 7 : 0);
        }
        t = loaded("1 0 0 0 CONST 1 OUTPUT CONST 1 CONST 0 OVER OUTPUT END");
        runs(t, 9, 0, 99, 3);
        outcomes(t, NONE, 4, 5, 1);
    }

    private static void trappingIsAStep() {
        sentence("Every instruction that is done is a STEP (a trapping one too)");
        String[] bodies = {"TRAP", "INPUT LOAD 63 DROP", "INPUT INPUT STORE 16", "INPUT INPUT OVER DROP",
            "INPUT INPUT REST DROP"};
        int[] traps = {1, 2, 2, 3, 3};
        int[] steps = {1, 2, 3, 3, 3};
        for (int i = 0; i < bodies.length; i++) {
            RangeTeller t = loaded("1 0 0 0 " + bodies[i] + " END");
            runs(t, 0, 0, steps[i], traps[i]);
            outcomes(t, NONE, steps[i] - 1, steps[i], 0);
            runs(t, 0, 0, steps[i] - 1, 5);
            outcomes(t, NONE, steps[i] - 1, steps[i] - 1, 0);
        }
        RangeTeller t = loaded("1 0 0 0 CALL 0 END");
        runs(t, 0, 0, 7, 4);
        outcomes(t, NONE, 0, 7, 0);
        runs(t, 0, 0, 6, 5);
        outcomes(t, NONE, 0, 6, 0);
    }

    private static void outOfSteps() {
        sentence("before a step that would be one too many the run stops: OUT OF STEPS");
        for (String end : new String[] {"", "RETURN ", "BRANCH 0 "}) {
            RangeTeller t = loaded("1 0 0 1 CONST 9 " + end + "END");
            runs(t, 0, 0, 0, 5);
            outcomes(t, NONE, 0, 0, 0);
            runs(t, 0, 0, 1, 5);
            outcomes(t, NONE, 1, 1, 0);
            runs(t, 0, 0, 2, 0);
            outcomes(t, 9, NONE, 2, 0);
        }
        // The END of a function that was called is a step, and behind it comes what is behind the CALL.
        RangeTeller t = loaded("2 0 0 0 CALL 1 END 0 0 0 END");
        int[] next = {0, 2, 1};
        for (int steps = 0; steps < 3; steps++) {
            runs(t, 0, 0, steps, 5);
            outcomes(t, NONE, next[steps], steps, 0);
        }
        runs(t, 0, 0, 3, 0);
        outcomes(t, NONE, NONE, 3, 0);
    }
}
