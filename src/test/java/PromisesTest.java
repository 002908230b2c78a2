import java.util.Arrays;

/** Goes through the promises of the document one by one. */
public final class PromisesTest extends Bench {
    public static void main(String[] args) {
        newObject();
        feeding();
        readingFaults();
        readingFrames();
        readingEndsTooEarly();
        checkingHeights();
        checkingDeadCode();
        checkingFrames();
        checkingNames();
        loadingForgets();
        loadingAnew();
        places();
        inputs();
        runParameters();
        runSteps();
        runTraps();
        runCalls();
        runFrames();
        runOperations();
        outcomes();
        outputs();
        memories();
        instructions();
        flags();
        operands();
        conditions();
        taints();
        locals();
        cells();
        functions();
        functionResults();
        finish();
    }

    // ---- promise 1

    private static void newObject() {
        about = "a new object";
        RangeTeller t = new RangeTeller();
        due("place()", t.place(), NONE);
        nothingLoaded(t);
        due("load()", t.load(), MALFORMED);
        due("place()", t.place(), 0);
        nothingLoaded(t);
        due("input(1)", t.input(1), 1);
    }

    // ---- promise 2

    private static void feeding() {
        about = "feed";
        RangeTeller t = new RangeTeller();
        for (int b : new int[] {-1, 64, Integer.MIN_VALUE, Integer.MAX_VALUE}) {
            due("feed(" + b + ")", t.feed(b), false);
        }
        due("load() of nothing", t.load(), MALFORMED);
        due("place()", t.place(), 0);
        for (int round = 0; round < 2; round++) {
            feed(t, 1, 0, 0, 0);
            for (int i = 4; i < 100; i++) {
                due("feed(0) for byte " + i, t.feed(0), true);
            }
            due("feed(0) for byte 100", t.feed(0), false);
            due("feed(63) for byte 100", t.feed(63), false);
            due("load()", t.load(), MALFORMED);
            due("place()", t.place(), 100);
        }
        feed(t, 63);
        due("load()", t.load(), MALFORMED);
        due("place()", t.place(), 1);
        longest();
    }

    private static void longest() {
        about = "100 bytes";
        RangeTeller t = new RangeTeller();
        feed(t, 1, 0, 0, 0);
        for (int i = 4; i < 99; i++) {
            feed(t, 0);
        }
        feed(t, 5);
        due("load()", t.load(), 96);
        due("instruction(95, 0)", t.instruction(95, 0), 5);
        due("instruction(96, 0)", t.instruction(96, 0), NONE);
    }

    // ---- promise 3: reading

    private static void readingFaults() {
        malformed(0);
        malformed(0, 0);
        malformed(0, 4);
        malformed(0, 31, 5);
        malformed(1, 33, 1, 0, 0, 0, 5);
        malformed(1, 32, 0, 0, 0, 0, 5);
        malformed(1, 33, 2, 0, 0, 0, 5);
        malformed(1, 33, 63, 0, 0, 0, 5);
        malformed(1, 1, 3, 0, 0, 5);
        malformed(2, 1, 35, 0, 0, 0, 5);
        malformed(2, 1, 34, 1, 0, 0, 5);
        malformed(2, 1, 0, 3, 0, 5);
        malformed(3, 1, 0, 34, 2, 0, 5);
        malformed(3, 1, 0, 0, 2, 5);
        malformed(4, 1, 0, 0, 33, 1, 5);
        malformed(4, 1, 0, 0, 0, 29);
        malformed(4, 1, 0, 0, 0, 32);
        malformed(4, 1, 0, 0, 0, 63, 1);
        malformed(5, 1, 0, 0, 0, 1, 2, 5, 5);
        malformed(6, 1, 0, 0, 0, 2, 34, 0, 5, 5);
        malformed(6, 1, 0, 0, 0, 3, 33, 1, 5, 5);
        malformed(6, 1, 0, 0, 0, 17, 40, 2, 5);
        malformed(5, 1, 0, 0, 0, 5, 5);
        malformed(5, 1, 0, 0, 0, 5, 0, 0, 0, 5);
        malformed(5, 2, 0, 0, 0, 5, 3, 0, 0, 5);
        malformed(8, 2, 0, 0, 0, 5, 0, 0, 0, 30);
        // What reading finds later comes before what checking would find sooner.
        malformed(6, 1, 0, 0, 0, 10, 10, 29);
        answers(new int[] {33, 0, 34, 0, 34, 0, 33, 0, 17, 32, 0, 5}, 2, NONE);
        answers(new int[] {3, 0, 0, 0, 5, 0, 0, 0, 5, 0, 0, 0, 5}, 3, NONE);
    }

    private static void readingFrames() {
        malformed(4, 1, 0, 0, 0, 4);
        malformed(6, 1, 0, 0, 0, 1, 0, 4, 5, 5);
        malformed(6, 1, 0, 0, 0, 2, 0, 4, 5, 5);
        malformed(9, 1, 1, 0, 0, 12, 0, 3, 0, 4, 4, 5, 5);
        malformed(10, 1, 1, 0, 0, 12, 0, 3, 0, 1, 0, 4, 5, 5, 5);
        malformed(9, 1, 1, 0, 0, 12, 0, 3, 0, 5, 4, 5);
        malformed(11, 1, 1, 0, 0, 12, 0, 3, 0, 4, 5, 5, 4);
        valid(7, "1 1 0 0 GET 0 IF 0 BLOCK 0 END ELSE END END");
        valid(9, "1 1 0 0 GET 0 IF 0 ELSE GET 0 IF 0 ELSE END END END");
        // An IF that is open in one function is no IF of the next one.
        malformed(13, 2, 1, 0, 0, 12, 0, 3, 0, 5, 5, 0, 0, 0, 4, 5);
    }

    private static void readingEndsTooEarly() {
        int[] whole = bytes("2 1 1 0 GET 0 IF 0 CONST 40 DROP ELSE LOOP 1 CONST 3 END DROP END END 0 0 0 CALL 1 END");
        answers(whole, 13, NONE);
        for (int n = 0; n < whole.length; n++) {
            malformed(n, Arrays.copyOf(whole, n));
        }
    }

    // ---- promise 3: checking

    private static void checkingHeights() {
        String[] needOne = {"DROP", "NOT", "SET 0", "TEE 0", "LOAD 0", "OUTPUT", "IF 0 END", "BRANCHIF 0"};
        for (String op : needOne) {
            invalid(0, "1 1 0 0 " + op + " TRAP END");
            answers(bytes("1 1 0 0 CONST 1 " + op + " TRAP END"), op.contains("END") ? 5 : 4, NONE);
        }
        for (int op = 19; op <= 26; op++) {
            invalid(1, "1 1 0 0 CONST 1 " + NAMES.get(op) + " TRAP END");
            valid(5, "1 1 0 0 CONST 1 CONST 1 " + NAMES.get(op) + " TRAP END");
            invalid(4, "1 1 0 0 CONST 1 CONST 1 " + NAMES.get(op) + " DROP DROP END");
        }
        invalid(1, "1 0 0 0 CONST 1 STORE 0 TRAP END");
        invalid(2, "1 0 0 0 CONST 1 CONST 1 PICK TRAP END");
        invalid(4, "1 0 0 0 CONST 1 CONST 1 CONST 1 PICK END");
        invalid(0, "1 0 0 1 END");
        invalid(1, "1 0 0 0 CONST 1 END");
        invalid(2, "1 0 0 1 CONST 1 CONST 1 END");
        valid(2, "1 0 0 1 CONST 1 END");
        invalid(0, "1 0 0 1 RETURN END");
        valid(4, "1 0 0 1 CONST 1 CONST 1 RETURN END");
        valid(12, "1 0 0 0 " + times(10, "INPUT") + "TRAP END");
        invalid(10, "1 0 0 0 " + times(11, "INPUT") + "TRAP END");
        invalid(10, "1 1 0 0 " + times(11, "GET 0") + "TRAP END");
        invalid(10, "2 0 0 0 " + times(11, "CALL 1") + "TRAP END 0 0 1 CONST 1 END");
        // The END gives its operand to a stack that is full.
        invalid(12, "1 0 0 0 " + times(10, "INPUT") + "BLOCK 1 TRAP END TRAP END");
        valid(14, "1 0 0 0 " + times(9, "INPUT") + "BLOCK 1 TRAP END TRAP END");
        valid(13, "1 0 0 0 " + times(10, "INPUT") + "NOT TRAP END");
    }

    private static void checkingDeadCode() {
        for (String dead : new String[] {"TRAP", "RETURN", "BRANCH 0"}) {
            valid(5, "1 1 0 0 " + dead + " DROP PICK DROP END");
            invalid(2, "1 1 0 0 " + dead + " PICK END");
            invalid(3, "1 1 0 0 " + dead + " CONST 1 CONST 1 END");
            valid(2, "1 1 0 0 " + dead + " END");
            // A frame that is opened in dead code is live itself.
            invalid(2, "1 1 0 0 " + dead + " BLOCK 0 DROP END END");
            valid(4, "1 1 0 0 " + dead + " IF 0 END END");
        }
        valid(3, "1 0 0 1 TRAP PLUS END");
        valid(4, "1 0 0 1 TRAP CONST 1 PLUS END");
        invalid(11, "1 0 0 0 TRAP " + times(11, "INPUT") + "TRAP END");
        valid(13, "1 0 0 0 TRAP " + times(10, "INPUT") + "TRAP END");
        // TEE and BRANCH IF give what they didn't have to take.
        invalid(2, "1 1 0 0 TRAP TEE 0 END");
        invalid(2, "1 1 0 0 TRAP BLOCK 1 BRANCHIF 0 END DROP END");
        valid(6, "1 1 0 0 BLOCK 1 TRAP BRANCHIF 0 END DROP END");
        invalid(4, "1 1 0 0 BLOCK 1 TRAP BRANCHIF 0 CONST 1 END DROP END");
        // What is behind the END of a dead frame is as live as what is round it.
        invalid(3, "1 0 0 0 BLOCK 0 TRAP END DROP END");
        valid(5, "1 0 0 0 TRAP BLOCK 0 END DROP END");
        // The frame is live again behind ELSE.
        invalid(4, "1 1 0 0 GET 0 IF 0 TRAP ELSE DROP END END");
    }

    private static void checkingFrames() {
        invalid(2, "1 0 0 0 CONST 1 BLOCK 0 DROP END DROP END");
        invalid(2, "1 0 0 0 CONST 1 BLOCK 1 END DROP DROP END");
        invalid(2, "1 0 0 0 BLOCK 0 CONST 1 END END");
        invalid(1, "1 0 0 0 LOOP 1 END DROP END");
        valid(5, "1 0 0 0 LOOP 1 CONST 1 END DROP END");
        invalid(3, "1 1 0 0 GET 0 IF 1 CONST 1 END DROP END");
        valid(8, "1 1 0 0 GET 0 IF 1 CONST 1 ELSE CONST 2 END DROP END");
        invalid(2, "1 1 0 0 GET 0 IF 1 ELSE CONST 2 END DROP END");
        invalid(4, "1 1 0 0 GET 0 IF 1 CONST 1 CONST 1 ELSE CONST 2 END DROP END");
        invalid(4, "1 1 0 0 GET 0 IF 1 CONST 1 ELSE END DROP END");
        invalid(3, "1 1 0 0 GET 0 IF 0 CONST 1 ELSE DROP END END");
        // An IF with r = 1 needs its ELSE even if it is dead.
        invalid(3, "1 1 0 0 GET 0 IF 1 TRAP END DROP END");
        // The base of an IF is behind its condition.
        invalid(3, "1 1 0 0 CONST 1 GET 0 IF 0 DROP END END");
        invalid(1, "1 0 0 0 BLOCK 1 BRANCH 0 END DROP END");
        invalid(2, "1 0 0 0 BLOCK 1 CONST 1 BRANCHIF 0 END DROP END");
        valid(7, "1 0 0 0 BLOCK 1 CONST 1 CONST 1 BRANCHIF 0 END DROP END");
        // A branch to a LOOP needs nothing, one to the function its results.
        valid(5, "1 0 0 0 LOOP 1 BRANCH 0 END DROP END");
        invalid(0, "1 0 0 1 BRANCH 0 END");
        invalid(1, "1 0 0 1 LOOP 0 BRANCH 1 END CONST 1 END");
        valid(6, "1 0 0 1 LOOP 0 CONST 1 BRANCH 1 END CONST 1 END");
        // What is below the base of the latest frame can't be taken along.
        invalid(2, "1 0 0 0 CONST 1 BLOCK 1 BRANCH 0 END DROP DROP END");
    }

    private static void checkingNames() {
        valid(2, "1 0 0 0 BRANCH 0 END");
        invalid(0, "1 0 0 0 BRANCH 1 END");
        invalid(1, "1 0 0 0 BLOCK 0 BRANCH 2 END END");
        valid(4, "1 0 0 0 BLOCK 0 BRANCH 1 END END");
        invalid(3, "1 0 0 0 BLOCK 0 END INPUT BRANCHIF 1 END");
        invalid(0, "1 0 0 0 BRANCH 63 END");
        invalid(0, "1 0 0 0 GET 0 DROP END");
        valid(3, "1 2 2 0 GET 3 DROP END");
        invalid(0, "1 2 2 0 GET 4 DROP END");
        invalid(1, "1 1 1 0 INPUT SET 2 END");
        invalid(1, "1 1 1 0 INPUT TEE 2 DROP END");
        invalid(0, "1 0 0 0 CALL 1 END");
        valid(3, "2 0 0 0 CALL 1 END 0 0 0 END");
        invalid(0, "2 0 0 0 CALL 2 END 0 0 0 END");
        invalid(2, "2 0 0 0 CALL 1 END 0 0 0 DROP END");
        invalid(1, "2 0 0 0 INPUT CALL 1 END 2 0 0 END");
        invalid(1, "2 0 0 0 CALL 1 END 0 0 1 INPUT END");
        // Also where it is dead.
        invalid(1, "1 0 0 0 TRAP GET 0 END");
        invalid(1, "1 0 0 0 TRAP CALL 1 END");
        invalid(1, "1 0 0 0 TRAP BRANCH 1 END");
        // No offset and no constant is too great.
        valid(5, "1 0 0 0 INPUT LOAD 63 CONST 63 STORE 63 END");
    }

    // ---- promise 3: what load leaves, and promise 4

    private static void loadingForgets() {
        RangeTeller t = loaded("1 0 0 1 INPUT OUTPUT CONST 3 CONST 9 STORE 0 CONST 7 END");
        t.input(5);
        due("run", t.run(0, 0, 100), 0);
        due("memory(3)", t.memory(3), 9);
        due("input(8)", t.input(8), 1);
        feed(t, bytes("1 0 0 1 INPUT END"));
        due("load()", t.load(), 2);
        for (int i = 0; i < 4; i++) {
            due("outcome(" + i + ")", t.outcome(i), NONE);
            due("output(" + i + ")", t.output(i), NONE);
            due("memory(" + i + ")", t.memory(i), NONE);
        }
        due("cell(3)", t.cell(3), 0);
        due("function(0, 4)", t.function(0, 4), ALL + TAINT);
        due("run", t.run(0, 0, 100), 0);
        due("outcome(0): inputs stay", t.outcome(0), 8);
        due("load() of no bytes", t.load(), MALFORMED);
        nothingLoaded(t);
        feed(t, bytes("1 0 0 1 INPUT END"));
        due("load()", t.load(), 2);
        due("run", t.run(0, 0, 100), 0);
        feed(t, bytes("1 0 0 0 DROP END"));
        due("load()", t.load(), INVALID);
        nothingLoaded(t);
        // The bytes of a load that failed are gone, too.
        feed(t, bytes("1 0 0 0 END"));
        due("load()", t.load(), 1);
        due("outcome(0)", t.outcome(0), NONE);
    }

    /** What one load leaves behind, wherever it stopped, must not be seen by the next one. */
    private static void loadingAnew() {
        about = "loading anew";
        RangeTeller t = new RangeTeller();
        feed(t, bytes("1 1 0 0 GET 0 IF 0 BLOCK 0 LOOP 0"));
        due("load() with open frames", t.load(), MALFORMED);
        feed(t, bytes("1 0 0 0 END"));
        due("load()", t.load(), 1);
        feed(t, bytes("1 1 0 0 GET 0 IF 0"));
        due("load() with an open IF", t.load(), MALFORMED);
        feed(t, bytes("1 0 0 0 ELSE END"));
        due("load()", t.load(), MALFORMED);
        due("place()", t.place(), 4);
        feed(t, bytes("1 0 0 0 CONST 1 CONST 1 BLOCK 0 DROP END END"));
        due("load() with operands", t.load(), INVALID);
        feed(t, bytes("1 0 0 0 END"));
        due("load()", t.load(), 1);
        due("function(0, 5)", t.function(0, 5), 1);
        feed(t, bytes("1 0 0 0 TRAP INPUT OUTPUT END"));
        due("load()", t.load(), 4);
        due("function(0, 5)", t.function(0, 5), 0);
        due("instruction(2, 3)", t.instruction(2, 3), 0);
        feed(t, bytes("2 0 0 1 CONST 3 INPUT STORE 0 INPUT INPUT CALL 1 END 2 0 1 GET 0 END"));
        due("load()", t.load(), 9);
        due("local(7, 0)", t.local(7, 0), ALL + TAINT);
        feed(t, bytes("2 0 0 1 CONST 3 CONST 4 CALL 1 END 2 0 1 GET 0 END"));
        due("load()", t.load(), 6);
        due("local(4, 0)", t.local(4, 0), range(3, 3));
        due("operand(3, 0)", t.operand(3, 0), range(3, 3));
        due("function(0, 4)", t.function(0, 4), range(3, 3));
        due("cell(3)", t.cell(3), 0);
    }

    private static void places() {
        about = "place";
        RangeTeller t = new RangeTeller();
        due("place()", t.place(), NONE);
        feed(t, 1, 0, 0, 0);
        due("place() before load", t.place(), NONE);
        due("load()", t.load(), MALFORMED);
        due("place()", t.place(), 4);
        due("place() again", t.place(), 4);
        feed(t, bytes("1 0 0 0 INPUT DROP DROP END"));
        due("place() before load", t.place(), 4);
        due("load()", t.load(), INVALID);
        due("place()", t.place(), 2);
        feed(t, bytes("1 0 0 0 END"));
        due("load()", t.load(), 1);
        due("place()", t.place(), NONE);
    }

    // ---- promise 5

    private static void inputs() {
        about = "input";
        RangeTeller t = new RangeTeller();
        due("input(-1)", t.input(-1), NONE);
        due("input(64)", t.input(64), NONE);
        for (int i = 1; i <= 12; i++) {
            due("input for " + i, t.input(64 - i), i);
        }
        due("input for 13", t.input(0), NONE);
        due("run without a module", t.run(0, 0, 10), NONE);
        feed(t, bytes("1 0 0 0 " + times(13, "INPUT OUTPUT") + "END"));
        due("load()", t.load(), 27);
        due("input for 13", t.input(0), NONE);
        due("run", t.run(0, 0, 100), 0);
        due("outcome(3)", t.outcome(3), 13);
        for (int i = 0; i < 12; i++) {
            due("output(" + i + ")", t.output(i), 63 - i);
        }
        due("output(12)", t.output(12), 0);
        due("run", t.run(0, 0, 100), 0);
        due("output(0): none are left", t.output(0), 0);
        due("input(63)", t.input(63), 1);
        due("input(0)", t.input(0), 2);
        due("run", t.run(0, 0, 0), 5);
        due("input(4): unused ones are gone, too", t.input(4), 1);
    }

    // ---- promise 6

    private static void runParameters() {
        gives("GET 0", 5, 9, 5);
        gives("GET 1", 5, 9, 9);
        gives("GET 2 GET 3 PLUS", 5, 9, 0);
        gives("GET 0", 64, 0, 0);
        gives("GET 0", -1, 0, 63);
        gives("GET 1", 0, -65, 63);
        gives("GET 0", Integer.MIN_VALUE, 0, 0);
        gives("GET 0", Integer.MAX_VALUE, 0, 63);
        RangeTeller t = loaded("1 1 2 1 GET 0 GET 1 PLUS GET 2 PLUS END");
        due("run(7, 9, 50)", t.run(7, 9, 50), 0);
        due("outcome(0): it has no second parameter", t.outcome(0), 7);
        t = loaded("1 0 1 1 GET 0 END");
        due("run(7, 9, 50)", t.run(7, 9, 50), 0);
        due("outcome(0)", t.outcome(0), 0);
    }

    private static void runSteps() {
        RangeTeller t = loaded("1 0 0 0 LOOP 0 BRANCH 0 END END");
        due("run(0, 0, 5000)", t.run(0, 0, 5000), 5);
        due("outcome(2)", t.outcome(2), 2000);
        due("run(0, 0, MAX)", t.run(0, 0, Integer.MAX_VALUE), 5);
        due("outcome(2)", t.outcome(2), 2000);
        due("run(0, 0, 1999)", t.run(0, 0, 1999), 5);
        due("outcome(2)", t.outcome(2), 1999);
        due("run(0, 0, MIN)", t.run(0, 0, Integer.MIN_VALUE), 5);
        due("outcome(2)", t.outcome(2), 0);
        due("outcome(1)", t.outcome(1), 0);
        due("run(0, 0, 1)", t.run(0, 0, 1), 5);
        due("outcome(1)", t.outcome(1), 1);
        t = loaded("1 0 0 0 BLOCK 0 END TRAP END");
        due("run(0, 0, 2)", t.run(0, 0, 2), 5);
        due("outcome(1)", t.outcome(1), 2);
        due("run(0, 0, 3)", t.run(0, 0, 3), 1);
        due("outcome(1)", t.outcome(1), 2);
        due("outcome(2)", t.outcome(2), 3);
        t = loaded("1 0 0 0 BLOCK 0 END END");
        due("run(0, 0, 2)", t.run(0, 0, 2), 5);
        due("run(0, 0, 3)", t.run(0, 0, 3), 0);
        due("outcome(2)", t.outcome(2), 3);
        t = loaded("1 0 0 0 RETURN END");
        due("run(0, 0, 1)", t.run(0, 0, 1), 0);
        due("outcome(2)", t.outcome(2), 1);
    }

    private static void runTraps() {
        RangeTeller t = loaded("1 2 0 0 GET 0 LOAD 3 GET 1 OVER DROP GET 0 CONST 5 STORE 0 TRAP END");
        due("run(13, 1, 99)", t.run(13, 1, 99), 2);
        due("outcome(1)", t.outcome(1), 1);
        due("run(12, 0, 99)", t.run(12, 0, 99), 3);
        due("outcome(1)", t.outcome(1), 3);
        due("run(12, 1, 99)", t.run(12, 1, 99), 1);
        due("outcome(1)", t.outcome(1), 8);
        due("memory(12)", t.memory(12), 5);
        t = loaded("1 2 0 0 GET 0 GET 1 STORE 1 END");
        due("run(15, 7, 99)", t.run(15, 7, 99), 2);
        due("outcome(1)", t.outcome(1), 2);
        for (int k = 0; k < 16; k++) {
            due("memory(" + k + ")", t.memory(k), 0);
        }
        // An address and its offset are not taken modulo 64.
        due("run(63, 7, 99)", t.run(63, 7, 99), 2);
        due("run(14, 7, 99)", t.run(14, 7, 99), 0);
        due("memory(15)", t.memory(15), 7);
        t = loaded("1 2 0 1 GET 0 GET 1 REST END");
        due("run(9, 0, 99)", t.run(9, 0, 99), 3);
        due("outcome(0)", t.outcome(0), NONE);
        due("outcome(1)", t.outcome(1), 2);
    }

    private static void runCalls() {
        // Function 1 counts its parameter down; its calls are as many as the parameter.
        String down = "2 1 0 1 GET 0 CALL 1 END 1 0 1 GET 0 IF 1 GET 0 CONST 1 MINUS CALL 1 CONST 1 PLUS ELSE CONST 0 "
            + "END END";
        RangeTeller t = loaded(down);
        due("run(5, 0, 999)", t.run(5, 0, 999), 0);
        due("outcome(0): six calls", t.outcome(0), 5);
        due("run(6, 0, 999)", t.run(6, 0, 999), 4);
        due("outcome(1)", t.outcome(1), 8);
        // As many operands as can be there at once.
        t = loaded("1 0 0 0 " + times(10, "INPUT") + "CALL 0 TRAP END");
        due("run(0, 0, 999)", t.run(0, 0, 999), 4);
        due("outcome(2)", t.outcome(2), 77);
        // What a run that stopped within calls leaves behind isn't seen by the next one.
        t = loaded("1 1 0 0 GET 0 IF 0 GET 0 CALL 0 END END");
        due("run(1, 0, 999)", t.run(1, 0, 999), 4);
        due("run(0, 0, 999)", t.run(0, 0, 999), 0);
        due("outcome(2)", t.outcome(2), 3);
        // Calls that are ended don't count.
        t = loaded("2 0 0 0 " + times(20, "CALL 1") + "END 0 0 0 END");
        due("run(0, 0, 99)", t.run(0, 0, 99), 0);
        due("outcome(2)", t.outcome(2), 41);
        // The first parameter is the lowest; the operands below stay; the locals begin with 0 each time.
        t = loaded("2 2 0 1 CONST 50 GET 0 GET 1 CALL 1 MINUS CONST 1 CONST 0 CALL 1 MINUS END "
            + "2 1 1 GET 2 CONST 1 PLUS SET 2 GET 0 GET 1 MINUS GET 2 PLUS END");
        due("run(20, 3, 99)", t.run(20, 3, 99), 0);
        due("outcome(0)", t.outcome(0), 50 - 18 - 2);
        // A function may be called that stands before, and function 0 too.
        t = loaded("1 1 0 1 GET 0 IF 0 CONST 0 CALL 0 RETURN END CONST 9 END");
        due("run(1, 0, 99)", t.run(1, 0, 99), 0);
        due("outcome(0)", t.outcome(0), 9);
        due("outcome(2)", t.outcome(2), 9);
    }

    private static void runFrames() {
        gives("GET 0 IF 1 CONST 3 ELSE CONST 4 END", 2, 0, 3);
        gives("GET 0 IF 1 CONST 3 ELSE CONST 4 END", 0, 0, 4);
        gives("GET 0 IF 0 CONST 3 SET 1 END GET 1", 0, 8, 8);
        gives("GET 0 IF 0 CONST 3 SET 1 END GET 1", 1, 8, 3);
        // What is between the base and what the frame needs is gone.
        gives("CONST 1 BLOCK 1 CONST 2 CONST 3 CONST 4 BRANCH 0 END MINUS", 0, 0, 61);
        gives("CONST 1 BLOCK 0 CONST 2 CONST 3 BRANCH 0 END", 0, 0, 1);
        gives("CONST 9 BLOCK 1 BLOCK 1 CONST 2 CONST 3 BRANCH 1 END DROP CONST 7 END MINUS", 0, 0, 6);
        gives("CONST 9 BLOCK 1 CONST 5 GET 0 BRANCHIF 0 DROP CONST 2 END MINUS", 1, 0, 4);
        gives("CONST 9 BLOCK 1 CONST 5 GET 0 BRANCHIF 0 DROP CONST 2 END MINUS", 0, 0, 7);
        gives("CONST 8 CONST 9 BRANCH 0", 0, 0, 9);
        gives("BLOCK 0 CONST 8 CONST 9 RETURN END CONST 1", 0, 0, 9);
        gives("CONST 7 GET 0 BRANCHIF 0 DROP CONST 2", 1, 0, 7);
        gives("CONST 7 GET 0 BRANCHIF 0 DROP CONST 2", 0, 0, 2);
        // A loop begins anew with the operands at its base.
        gives("CONST 4 LOOP 1 CONST 1 GET 0 CONST 1 MINUS TEE 0 BRANCHIF 0 END PLUS", 6, 0, 5);
        // A branch to an IF goes behind its END from both of its parts.
        gives("GET 0 IF 1 CONST 3 BRANCH 0 ELSE CONST 4 BRANCH 0 END CONST 1 PLUS", 1, 0, 4);
        gives("GET 0 IF 1 CONST 3 BRANCH 0 ELSE CONST 4 BRANCH 0 END CONST 1 PLUS", 0, 0, 5);
    }

    private static void runOperations() {
        gives("GET 0 GET 1 SAME", 5, 5, 1);
        gives("GET 0 GET 1 SAME", 5, 4, 0);
        gives("GET 0 GET 1 LESS", 4, 5, 1);
        gives("GET 0 GET 1 LESS", 5, 5, 0);
        gives("GET 0 GET 1 LESS", 63, 0, 0);
        gives("GET 0 GET 1 PLUS", 60, 10, 6);
        gives("GET 0 GET 1 MINUS", 3, 10, 57);
        gives("GET 0 GET 1 TIMES", 9, 9, 17);
        gives("GET 0 GET 1 OVER", 63, 10, 6);
        gives("GET 0 GET 1 REST", 63, 10, 3);
        gives("GET 0 GET 1 BOTH", 44, 38, 36);
        gives("GET 0 NOT", 0, 0, 1);
        gives("GET 0 NOT", 63, 0, 0);
        gives("CONST 8 CONST 9 GET 0 PICK", 2, 0, 8);
        gives("CONST 8 CONST 9 GET 0 PICK", 0, 0, 9);
        gives("CONST 63", 0, 0, 63);
        gives("CONST 5 TEE 3 GET 3 PLUS", 0, 0, 10);
        gives("CONST 5 SET 3 GET 3", 0, 0, 5);
        gives("CONST 5 CONST 6 DROP", 0, 0, 5);
        gives("CONST 2 CONST 6 STORE 4 CONST 6 LOAD 0", 0, 0, 6);
        gives("CONST 0 LOAD 15", 0, 0, 0);
    }

    // ---- promises 7, 8, 9

    private static void outcomes() {
        RangeTeller t = loaded("1 1 0 1 GET 0 IF 0 TRAP END CONST 12 CONST 1 OUTPUT END");
        due("outcome(0) before a run", t.outcome(0), NONE);
        due("run(0, 0, 99)", t.run(0, 0, 99), 0);
        int[] ended = {NONE, 12, NONE, 6, 1, NONE};
        for (int what = -1; what < 5; what++) {
            due("outcome(" + what + ")", t.outcome(what), ended[what + 1]);
        }
        due("run(1, 0, 99)", t.run(1, 0, 99), 1);
        int[] trapped = {NONE, NONE, 2, 3, 0, NONE};
        for (int what = -1; what < 5; what++) {
            due("outcome(" + what + ")", t.outcome(what), trapped[what + 1]);
        }
        due("run(0, 0, 3)", t.run(0, 0, 3), 5);
        int[] stopped = {NONE, NONE, 5, 3, 0, NONE};
        for (int what = -1; what < 5; what++) {
            due("outcome(" + what + ")", t.outcome(what), stopped[what + 1]);
        }
        t = loaded("1 0 0 0 END");
        due("run(0, 0, 99)", t.run(0, 0, 99), 0);
        due("outcome(0) without results", t.outcome(0), NONE);
        due("outcome(MIN)", t.outcome(Integer.MIN_VALUE), NONE);
        due("outcome(MAX)", t.outcome(Integer.MAX_VALUE), NONE);
    }

    private static void outputs() {
        RangeTeller t = loaded("1 1 0 0 LOOP 0 GET 0 OUTPUT GET 0 CONST 1 MINUS TEE 0 BRANCHIF 0 END END");
        due("output(0) before a run", t.output(0), NONE);
        due("run(25, 0, 999)", t.run(25, 0, 999), 0);
        due("outcome(3)", t.outcome(3), 25);
        for (int k = 0; k < 20; k++) {
            due("output(" + k + ")", t.output(k), 25 - k);
        }
        due("output(20)", t.output(20), NONE);
        due("output(-1)", t.output(-1), NONE);
        due("run(2, 0, 999)", t.run(2, 0, 999), 0);
        due("outcome(3)", t.outcome(3), 2);
        due("output(1)", t.output(1), 1);
        due("output(2)", t.output(2), NONE);
        due("output(MAX)", t.output(Integer.MAX_VALUE), NONE);
        // What was put out before a trap stays.
        t = loaded("1 0 0 0 CONST 9 OUTPUT TRAP END");
        due("run(0, 0, 99)", t.run(0, 0, 99), 1);
        due("output(0)", t.output(0), 9);
    }

    private static void memories() {
        RangeTeller t = loaded("1 2 0 0 GET 0 GET 1 STORE 0 END");
        due("memory(0) before a run", t.memory(0), NONE);
        due("run(15, 40, 99)", t.run(15, 40, 99), 0);
        due("memory(15)", t.memory(15), 40);
        due("memory(14)", t.memory(14), 0);
        due("memory(16)", t.memory(16), NONE);
        due("memory(-1)", t.memory(-1), NONE);
        due("memory(MIN)", t.memory(Integer.MIN_VALUE), NONE);
        due("run(0, 41, 99)", t.run(0, 41, 99), 0);
        due("memory(15): 0 when a run begins", t.memory(15), 0);
        due("memory(0)", t.memory(0), 41);
        due("run(0, 41, 0)", t.run(0, 41, 0), 5);
        due("memory(0)", t.memory(0), 0);
    }

    // ---- promise 10

    private static void instructions() {
        RangeTeller t = loaded("2 1 0 0 GET 0 IF 0 BLOCK 0 CONST 63 DROP END ELSE LOOP 0 END END TRAP DROP END "
            + "0 0 0 CONST 5 DROP END");
        int[] ops = {12, 3, 1, 17, 10, 5, 4, 2, 5, 5, 0, 10, 5, 17, 10, 5};
        int[] arguments = {0, 0, 0, 63, 0, 0, 0, 0, 0, 0, 0, 0, 0, 5, 0, 0};
        int[] behind = {NONE, 10, 6, NONE, NONE, NONE, 10, 9, NONE, NONE, NONE, NONE, NONE, NONE, NONE, NONE};
        int[] heights = {0, 1, 0, 0, 1, 0, 0, 0, 0, 0, 0, NONE, NONE, NONE, NONE, NONE};
        for (int k = 0; k < 16; k++) {
            due("instruction(" + k + ", 0)", t.instruction(k, 0), ops[k]);
            due("instruction(" + k + ", 1)", t.instruction(k, 1), arguments[k]);
            due("instruction(" + k + ", 2)", t.instruction(k, 2), heights[k] == NONE ? 0 : 1);
            due("instruction(" + k + ", 3)", t.instruction(k, 3), k == 10 ? 1 : 0);
            due("instruction(" + k + ", 4)", t.instruction(k, 4), behind[k]);
            due("instruction(" + k + ", 5)", t.instruction(k, 5), heights[k]);
            due("instruction(" + k + ", 6)", t.instruction(k, 6), NONE);
            due("instruction(" + k + ", -1)", t.instruction(k, -1), NONE);
        }
        for (int what = 0; what < 6; what++) {
            due("instruction(-1, " + what + ")", t.instruction(-1, what), NONE);
            due("instruction(16, " + what + ")", t.instruction(16, what), NONE);
            due("instruction(MAX, " + what + ")", t.instruction(Integer.MAX_VALUE, what), NONE);
            due("instruction(MIN, " + what + ")", t.instruction(Integer.MIN_VALUE, what), NONE);
        }
    }

    private static void flagged(String body, int k, int want) {
        RangeTeller t = loaded("1 1 1 0 " + body + " END");
        due("instruction(" + k + ", 3)", t.instruction(k, 3), want);
    }

    private static void flags() {
        flagged("TRAP", 0, 1);
        flagged("TRAP TRAP", 1, 0);
        flagged("CONST 12 LOAD 3 DROP", 1, 0);
        flagged("CONST 12 LOAD 4 DROP", 1, 2);
        flagged("CONST 0 LOAD 63 DROP", 1, 2);
        flagged("GET 0 LOAD 0 DROP", 1, 2);
        flagged("GET 0 CONST 15 BOTH LOAD 0 DROP", 3, 0);
        flagged("GET 0 CONST 15 BOTH LOAD 1 DROP", 3, 2);
        flagged("CONST 12 GET 0 STORE 3", 2, 0);
        flagged("CONST 13 GET 0 STORE 3", 2, 2);
        flagged("GET 0 CONST 3 STORE 0", 2, 2);
        for (String op : new String[] {"OVER", "REST"}) {
            flagged("CONST 3 GET 0 " + op + " DROP", 2, 4);
            flagged("CONST 3 CONST 0 " + op + " DROP", 2, 4);
            flagged("GET 0 CONST 1 " + op + " DROP", 2, 0);
            flagged("CONST 3 GET 0 NOT CONST 1 PLUS " + op + " DROP", 5, 0);
        }
        flagged("GET 0 OUTPUT", 1, 0);
        flagged("INPUT OUTPUT", 1, 8);
        flagged("INPUT CONST 0 TIMES OUTPUT", 3, 8);
        flagged("INPUT DROP", 1, 0);
        flagged("GET 0 GET 0 TIMES DROP", 2, 0);
    }

    // ---- promise 11

    private static void before(String body, int k, int i, int want) {
        RangeTeller t = loaded("1 2 1 0 " + body + " END");
        due("operand(" + k + ", " + i + ")", t.operand(k, i), want);
    }

    private static void operands() {
        RangeTeller t = loaded("1 1 0 0 CONST 7 GET 0 INPUT DROP DROP DROP TRAP INPUT DROP END");
        due("operand(0, 0)", t.operand(0, 0), NONE);
        due("operand(3, 0)", t.operand(3, 0), ALL + TAINT);
        due("operand(3, 1)", t.operand(3, 1), ALL);
        due("operand(3, 2)", t.operand(3, 2), range(7, 7));
        due("operand(3, 3)", t.operand(3, 3), NONE);
        due("operand(3, -1)", t.operand(3, -1), NONE);
        due("operand(3, MIN)", t.operand(3, Integer.MIN_VALUE), NONE);
        due("operand(3, MAX)", t.operand(3, Integer.MAX_VALUE), NONE);
        due("operand(8, 0): not reached", t.operand(8, 0), NONE);
        due("operand(10, 0)", t.operand(10, 0), NONE);
        due("operand(-1, 0)", t.operand(-1, 0), NONE);
        due("operand(MIN, 0)", t.operand(Integer.MIN_VALUE, 0), NONE);
        before("GET 0 NOT DROP", 2, 0, range(0, 1));
        before("CONST 0 NOT DROP", 2, 0, range(1, 1));
        before("CONST 3 NOT DROP", 2, 0, range(0, 0));
        before("CONST 3 CONST 0 OVER DROP", 3, 0, NONE);
        before("CONST 3 CONST 0 REST DROP", 3, 0, NONE);
        before("CONST 50 GET 0 REST DROP", 3, 0, range(0, 50));
        before("GET 0 CONST 10 REST DROP", 3, 0, range(0, 9));
        before("GET 0 CONST 10 OVER DROP", 3, 0, range(0, 6));
        before("GET 0 CONST 2 TIMES DROP", 3, 0, range(0, 62));
        before("GET 0 CONST 20 BOTH DROP", 3, 0, range(0, 20));
        before("GET 0 GET 0 MINUS DROP", 3, 0, ALL);
        before("GET 0 NOT CONST 62 PLUS DROP", 4, 0, range(62, 63));
        before("GET 0 NOT CONST 63 PLUS DROP", 4, 0, ALL);
        before("GET 0 CONST 5 SAME DROP", 3, 0, range(0, 1));
        before("CONST 5 CONST 5 SAME DROP", 3, 0, range(1, 1));
        before("CONST 5 CONST 6 SAME DROP", 3, 0, range(0, 0));
        before("CONST 5 CONST 5 LESS DROP", 3, 0, range(0, 0));
        before("GET 0 CONST 0 LESS DROP", 3, 0, range(0, 0));
        before("GET 0 CONST 1 LESS DROP", 3, 0, range(0, 1));
        before("GET 0 NOT CONST 2 LESS DROP", 4, 0, range(1, 1));
        before("CONST 40 GET 0 NOT MINUS DROP", 4, 0, range(39, 40));
        before("CONST 4 CONST 9 GET 0 PICK DROP", 4, 0, range(4, 9));
        before("CONST 4 CONST 9 CONST 2 PICK DROP", 4, 0, range(4, 4));
        before("CONST 4 CONST 9 CONST 0 PICK DROP", 4, 0, range(9, 9));
        before("CONST 3 CONST 40 STORE 0 CONST 3 LOAD 0 DROP", 5, 0, range(0, 40));
        before("CONST 3 CONST 40 STORE 0 CONST 4 LOAD 0 DROP", 5, 0, 0);
        before("CONST 16 LOAD 0 DROP", 2, 0, NONE);
        before("CONST 16 CONST 1 STORE 0 TRAP", 3, 0, NONE);
        // The branch takes along what the frame needs, and leaves what is between.
        before("CONST 1 BLOCK 1 CONST 2 CONST 3 BRANCH 0 END DROP DROP", 6, 0, range(3, 3));
        before("CONST 1 BLOCK 1 CONST 2 CONST 3 BRANCH 0 END DROP DROP", 6, 1, range(1, 1));
        before("CONST 1 BLOCK 1 CONST 2 CONST 3 BRANCH 0 END DROP DROP", 6, 2, NONE);
        before("CONST 1 BLOCK 1 CONST 2 CONST 3 BRANCH 0 END DROP DROP", 5, 0, NONE);
        before("GET 0 IF 1 CONST 5 ELSE CONST 2 END DROP", 6, 0, range(2, 5));
        before("GET 0 IF 1 CONST 5 ELSE CONST 2 END DROP", 5, 0, range(2, 2));
        before("BLOCK 1 CONST 9 GET 0 BRANCHIF 0 DROP CONST 8 END DROP", 7, 0, range(8, 9));
    }

    private static void conditions() {
        // IF and BRANCH IF give on only where the condition can lead, and narrow nothing.
        RangeTeller t = loaded("1 1 0 0 CONST 0 IF 0 TRAP ELSE GET 0 DROP END END");
        due("instruction(2, 2)", t.instruction(2, 2), 0);
        due("instruction(3, 2)", t.instruction(3, 2), 0);
        due("instruction(4, 2)", t.instruction(4, 2), 1);
        due("instruction(6, 2)", t.instruction(6, 2), 1);
        t = loaded("1 1 0 0 CONST 2 IF 0 TRAP ELSE GET 0 DROP END END");
        due("instruction(2, 2)", t.instruction(2, 2), 1);
        due("instruction(4, 2)", t.instruction(4, 2), 0);
        due("instruction(7, 2)", t.instruction(7, 2), 0);
        due("function(0, 5)", t.function(0, 5), 0);
        t = loaded("1 1 0 0 GET 0 IF 0 GET 0 DROP END END");
        due("local(2, 0)", t.local(2, 0), ALL);
        due("operand(3, 0)", t.operand(3, 0), ALL);
        t = loaded("1 1 0 0 BLOCK 0 CONST 0 BRANCHIF 0 TRAP END END");
        due("instruction(3, 2)", t.instruction(3, 2), 1);
        due("instruction(5, 2)", t.instruction(5, 2), 0);
        t = loaded("1 1 0 0 BLOCK 0 CONST 1 BRANCHIF 0 TRAP END END");
        due("instruction(3, 2)", t.instruction(3, 2), 0);
        due("instruction(4, 2)", t.instruction(4, 2), 0);
        due("instruction(5, 2)", t.instruction(5, 2), 1);
        t = loaded("1 1 0 0 CONST 1 BRANCHIF 0 END");
        due("function(0, 5)", t.function(0, 5), 1);
        due("instruction(2, 2)", t.instruction(2, 2), 0);
        // An IF without ELSE goes behind its END, which isn't reached by that itself.
        t = loaded("1 1 0 0 CONST 0 IF 0 END END");
        due("instruction(2, 2)", t.instruction(2, 2), 0);
        due("instruction(3, 2)", t.instruction(3, 2), 1);
    }

    private static void taints() {
        before("INPUT NOT DROP", 2, 0, range(0, 1) + TAINT);
        before("CONST 1 INPUT BOTH DROP", 3, 0, range(0, 1) + TAINT);
        before("INPUT CONST 1 BOTH DROP", 3, 0, range(0, 1) + TAINT);
        before("CONST 1 CONST 2 INPUT PICK DROP", 4, 0, range(1, 2) + TAINT);
        before("INPUT CONST 2 CONST 0 PICK DROP", 4, 0, range(2, 2));
        before("CONST 1 INPUT CONST 3 PICK DROP", 4, 0, range(1, 1));
        before("CONST 1 INPUT GET 0 PICK DROP", 4, 0, ALL + TAINT);
        before("CONST 1 CONST 2 INPUT CONST 0 TIMES PICK DROP", 6, 0, range(2, 2) + TAINT);
        before("INPUT LOAD 0 DROP", 2, 0, TAINT);
        before("GET 0 LOAD 0 DROP", 2, 0, 0);
        before("CONST 4 INPUT STORE 0 CONST 4 LOAD 0 DROP", 5, 0, ALL + TAINT);
        before("INPUT CONST 7 STORE 0 CONST 4 LOAD 0 DROP", 5, 0, range(0, 7) + TAINT);
        before("INPUT SET 2 GET 2 DROP", 3, 0, ALL + TAINT);
        before("INPUT SET 2 CONST 1 SET 2 GET 2 DROP", 5, 0, range(1, 1));
        // A condition taints nothing of what it leads to.
        before("INPUT IF 1 CONST 5 ELSE CONST 2 END DROP", 6, 0, range(2, 5));
    }

    // ---- promise 12

    private static void locals() {
        RangeTeller t = loaded("1 1 1 0 LOOP 0 GET 1 CONST 3 PLUS TEE 1 GET 0 SAME BRANCHIF 0 END TRAP END");
        due("local(0, 0)", t.local(0, 0), ALL);
        due("local(0, 1)", t.local(0, 1), 0);
        due("local(0, 2)", t.local(0, 2), NONE);
        due("local(0, -1)", t.local(0, -1), NONE);
        due("local(0, MAX)", t.local(0, Integer.MAX_VALUE), NONE);
        due("local(1, 1)", t.local(1, 1), ALL);
        due("local(10, 1): not reached", t.local(10, 1), NONE);
        due("local(11, 0)", t.local(11, 0), NONE);
        due("local(-1, 0)", t.local(-1, 0), NONE);
        t = loaded("1 1 1 0 CONST 5 SET 1 GET 0 IF 0 CONST 9 TEE 1 DROP END END");
        due("local(1, 1)", t.local(1, 1), 0);
        due("local(2, 1)", t.local(2, 1), range(5, 5));
        due("local(7, 1)", t.local(7, 1), range(9, 9));
        due("local(8, 1)", t.local(8, 1), range(5, 9));
        // A counter that goes down by 1 and is stopped by nothing that a range can tell.
        t = loaded("1 0 1 0 CONST 9 SET 0 LOOP 0 GET 0 CONST 1 MINUS TEE 0 BRANCHIF 0 END END");
        due("local(2, 0)", t.local(2, 0), range(9, 9));
        due("local(3, 0)", t.local(3, 0), ALL);
        t = loaded("1 0 1 0 LOOP 0 GET 0 CONST 3 PLUS CONST 30 BOTH CONST 1 PLUS TEE 0 BRANCHIF 0 END END");
        due("local(1, 0)", t.local(1, 0), range(0, 31));
        due("local(10, 0): the condition can't be 0", t.local(10, 0), NONE);
        // Parameters of a function are joined from its calls.
        t = loaded("2 0 0 0 CONST 3 INPUT CALL 1 CONST 7 CONST 5 CALL 1 END 2 1 0 END");
        due("local(7, 0)", t.local(7, 0), range(3, 7));
        due("local(7, 1)", t.local(7, 1), ALL + TAINT);
        due("local(7, 2)", t.local(7, 2), 0);
        // The parameters of function 0 have all values, and may be tainted by a call.
        t = loaded("1 1 0 0 GET 0 IF 0 INPUT CALL 0 END END");
        due("local(0, 0)", t.local(0, 0), ALL + TAINT);
        // A call that isn't reached gives nothing.
        t = loaded("2 0 0 0 CONST 1 CALL 1 TRAP CONST 5 CALL 1 END 1 0 0 END");
        due("local(6, 0)", t.local(6, 0), range(1, 1));
    }

    // ---- promise 13

    private static void cells() {
        RangeTeller t = loaded("1 1 0 0 CONST 2 CONST 9 STORE 1 GET 0 CONST 3 BOTH INPUT STORE 5 TRAP "
            + "CONST 0 CONST 1 STORE 0 END");
        int[] want = new int[16];
        want[3] = range(0, 9);
        for (int k = 5; k <= 8; k++) {
            want[k] = ALL + TAINT;
        }
        for (int k = 0; k < 16; k++) {
            due("cell(" + k + ")", t.cell(k), want[k]);
        }
        due("cell(-1)", t.cell(-1), NONE);
        due("cell(16)", t.cell(16), NONE);
        due("cell(MIN)", t.cell(Integer.MIN_VALUE), NONE);
        due("run(0, 0, 99)", t.run(0, 0, 99), 1);
        due("cell(3) is told of all runs", t.cell(3), range(0, 9));
        // Not modulo 64: 60 .. 63 plus 4 mean no cell.
        t = loaded("1 1 0 0 GET 0 CONST 60 PLUS CONST 1 STORE 4 END");
        due("cell(0)", t.cell(0), 0);
        due("cell(4)", t.cell(4), range(0, 1));
        due("cell(15)", t.cell(15), range(0, 1));
        t = loaded("1 1 0 0 INPUT CONST 0 STORE 14 END");
        due("cell(13)", t.cell(13), 0);
        due("cell(14)", t.cell(14), TAINT);
        // What is stored late reaches the loads that stand before it.
        t = loaded("1 0 0 0 LOOP 0 CONST 1 LOAD 0 OUTPUT CONST 1 INPUT STORE 0 INPUT BRANCHIF 0 END END");
        due("instruction(3, 3)", t.instruction(3, 3), 8);
    }

    // ---- promise 14

    private static void functions() {
        RangeTeller t = loaded("3 1 0 0 GET 0 DROP END 2 1 1 CONST 4 END 0 2 0 TRAP END");
        int[][] want = {{0, 1, 0, 0, NONE, 1}, {3, 2, 1, 1, NONE, 0}, {5, 0, 2, 0, NONE, 0}};
        for (int f = 0; f < 3; f++) {
            for (int what = 0; what < 6; what++) {
                due("function(" + f + ", " + what + ")", t.function(f, what), want[f][what]);
            }
            due("function(" + f + ", -1)", t.function(f, -1), NONE);
            due("function(" + f + ", 6)", t.function(f, 6), NONE);
        }
        for (int what = 0; what < 6; what++) {
            due("function(-1, " + what + ")", t.function(-1, what), NONE);
            due("function(3, " + what + ")", t.function(3, what), NONE);
            due("function(MIN, " + what + ")", t.function(Integer.MIN_VALUE, what), NONE);
        }
        t = loaded("1 0 0 0 END");
        due("function(1, 0)", t.function(1, 0), NONE);
    }

    private static void result(String body, int want, int canEnd) {
        RangeTeller t = loaded("1 1 0 1 " + body + " END");
        due("function(0, 4)", t.function(0, 4), want);
        due("function(0, 5)", t.function(0, 5), canEnd);
    }

    private static void functionResults() {
        result("CONST 4", range(4, 4), 1);
        result("CONST 4 RETURN", range(4, 4), 1);
        result("CONST 4 BRANCH 0", range(4, 4), 1);
        result("CONST 4 GET 0 BRANCHIF 0 DROP CONST 9", range(4, 9), 1);
        result("CONST 4 CONST 0 BRANCHIF 0 DROP CONST 9", range(9, 9), 1);
        result("CONST 4 CONST 7 BRANCHIF 0 DROP CONST 9", range(4, 4), 1);
        result("GET 0 IF 0 INPUT RETURN END CONST 9", ALL + TAINT, 1);
        result("TRAP", NONE, 0);
        result("LOOP 0 BRANCH 0 END CONST 1", NONE, 0);
        result("GET 0 CALL 0", NONE, 0);
        result("GET 0 IF 1 GET 0 CALL 0 CONST 1 PLUS ELSE CONST 2 END", ALL, 1);
        result("GET 0 IF 1 GET 0 CALL 0 CONST 4 BOTH ELSE CONST 2 END", range(0, 2), 1);
        // Behind a call nothing is reached as long as the function can't end.
        RangeTeller t = loaded("3 0 0 0 CALL 2 CALL 1 END 0 0 0 LOOP 0 BRANCH 0 END END 0 0 0 END");
        due("instruction(1, 2)", t.instruction(1, 2), 1);
        due("instruction(2, 2)", t.instruction(2, 2), 0);
        due("instruction(7, 2)", t.instruction(7, 2), 1);
        due("function(0, 5)", t.function(0, 5), 0);
        due("function(1, 5)", t.function(1, 5), 0);
        due("function(2, 5)", t.function(2, 5), 1);
        t = loaded("2 0 0 0 CALL 1 OUTPUT END 0 0 1 INPUT CONST 3 BOTH END");
        due("operand(1, 0)", t.operand(1, 0), range(0, 3) + TAINT);
        due("instruction(1, 3)", t.instruction(1, 3), 8);
        due("function(1, 4)", t.function(1, 4), range(0, 3) + TAINT);
    }
}
