/** The boundary cases that the sentences on FORETELLING and its FLAGS name, each by itself. */
public final class ForetellingEdgesTest extends Bench {
    public static void main(String[] args) {
        joins();
        joinsTaint();
        notReached();
        cellsBegin();
        functionZeroBegins();
        functionZeroCalled();
        calledFunctionsAreReached();
        calledFunctionsBegin();
        sumsWrap();
        differencesWrap();
        productsWrap();
        quotients();
        rests();
        dividingByZeroAlone();
        comparisons();
        bitsAndNot();
        operationsTaint();
        constantsAndInputs();
        pickByCondition();
        pickTaints();
        loadCells();
        loadTaints();
        storeCells();
        storeTaints();
        storesReachLoads();
        ifLeads();
        branchIfLeads();
        nothingIsNarrowed();
        framesGiveOn();
        loopsGrow();
        memoryGrows();
        callsGrow();
        callGivesOn();
        callOfWhatCannotEnd();
        resultsJoin();
        canEnd();
        trapGivesNothingOn();
        flagOfTrap();
        flagOfLoad();
        flagOfStore();
        flagOfZero();
        flagOfOutput();
        finish();
    }

    // ---- helpers

    /** Instructions that leave an untainted range on the stack, in function 0 with a parameter. */
    private static String span(int least, int greatest) {
        if (least == greatest) {
            return "CONST " + least + " ";
        }
        return least == 0 && greatest == 63 ? "GET 0 " : "CONST " + least + " CONST " + greatest + " GET 0 PICK ";
    }

    /** The range that is left on the stack; NONE if what comes behind isn't reached. */
    private static void leaves(String body, int want) {
        RangeTeller t = loaded("1 2 2 1 " + body + " END");
        int end = instructionCount(t) - 1;
        due("function(0, 4)", t.function(0, 4), want);
        due("operand(" + end + ", 0)", t.operand(end, 0), want);
        due("instruction(" + end + ", 2)", t.instruction(end, 2), want == NONE ? 0 : 1);
        due("instruction(" + end + ", 5)", t.instruction(end, 5), want == NONE ? NONE : 1);
    }

    private static int instructionCount(RangeTeller t) {
        int k = 0;
        while (t.instruction(k, 0) != NONE) {
            k++;
        }
        return k;
    }

    private static void pair(String op, int p1, int p2, int q1, int q2, int want) {
        leaves(span(p1, p2) + span(q1, q2) + op, want);
    }

    /** Which instructions are reached, as a text of 1 and 0. */
    private static void reached(String text, String want) {
        RangeTeller t = loaded(text);
        int count = instructionCount(t);
        due("load()", count, want.length());
        for (int k = 0; k < count && k < want.length(); k++) {
            due("instruction(" + k + ", 2)", t.instruction(k, 2), want.charAt(k) - '0');
        }
    }

    // ---- joining

    private static void joins() {
        sentence("To JOIN ranges is to take the smallest range that has all values of all");
        leaves("GET 0 IF 1 CONST 0 ELSE CONST 63 END", range(0, 63));
        leaves("GET 0 IF 1 CONST 63 ELSE CONST 0 END", range(0, 63));
        leaves("GET 0 IF 1 CONST 5 ELSE CONST 5 END", range(5, 5));
        leaves("GET 0 IF 1 " + span(10, 20) + "ELSE " + span(12, 18) + "END", range(10, 20));
        leaves("GET 0 IF 1 " + span(12, 18) + "ELSE " + span(10, 20) + "END", range(10, 20));
        leaves("GET 0 IF 1 " + span(10, 20) + "ELSE " + span(20, 30) + "END", range(10, 30));
        leaves("GET 0 IF 1 " + span(40, 41) + "ELSE " + span(3, 4) + "END", range(3, 41));
        // A join with nothing at all is what the other one is.
        leaves("GET 0 IF 1 CONST 5 ELSE TRAP END", range(5, 5));
        leaves("GET 0 IF 1 TRAP ELSE CONST 5 END", range(5, 5));
    }

    private static void joinsTaint() {
        sentence("To JOIN ranges ... tainted if one is");
        String tainted = "INPUT CONST 7 BOTH ";
        leaves("GET 0 IF 1 " + tainted + "ELSE CONST 5 END", range(0, 7) + TAINT);
        leaves("GET 0 IF 1 CONST 5 ELSE " + tainted + "END", range(0, 7) + TAINT);
        leaves("GET 0 IF 1 " + tainted + "ELSE CONST 9 END", range(0, 9) + TAINT);
        leaves("GET 0 IF 1 " + tainted + "ELSE " + tainted + "END", range(0, 7) + TAINT);
        leaves("GET 0 IF 1 CONST 4 ELSE CONST 5 END", range(4, 5));
        leaves("GET 0 IF 1 " + tainted + "DROP CONST 4 ELSE CONST 5 END", range(4, 5));
        leaves("CONST 0 IF 1 " + tainted + "ELSE CONST 5 END", range(5, 5));
    }

    private static void notReached() {
        sentence("or it is not REACHED");
        RangeTeller t = loaded("1 1 1 1 CONST 3 RETURN CONST 4 TRAP OUTPUT OVER END");
        for (int k = 2; k < 7; k++) {
            due("instruction(" + k + ", 2)", t.instruction(k, 2), 0);
            due("instruction(" + k + ", 3)", t.instruction(k, 3), 0);
            due("instruction(" + k + ", 5)", t.instruction(k, 5), NONE);
            due("operand(" + k + ", 0)", t.operand(k, 0), NONE);
            due("local(" + k + ", 0)", t.local(k, 0), NONE);
            due("local(" + k + ", 1)", t.local(k, 1), NONE);
        }
        due("instruction(1, 2)", t.instruction(1, 2), 1);
    }

    // ---- what all begins with

    private static void cellsBegin() {
        sentence("Cells have 0, untainted.");
        RangeTeller t = loaded("1 0 0 0 END");
        for (int k = 0; k < 16; k++) {
            due("cell(" + k + ")", t.cell(k), 0);
        }
        t = loaded("1 0 0 0 CONST 15 CONST 9 STORE 0 CONST 0 CONST 63 STORE 0 END");
        due("cell(0)", t.cell(0), range(0, 63));
        due("cell(15)", t.cell(15), range(0, 9));
        leaves("CONST 15 LOAD 0", 0);
        leaves("CONST 0 LOAD 0", 0);
    }

    private static void functionZeroBegins() {
        sentence("The parameters of function 0 have all values, untainted, and its first instruction is reached");
        RangeTeller t = loaded("2 2 2 0 END 2 2 0 END");
        due("local(0, 0)", t.local(0, 0), ALL);
        due("local(0, 1)", t.local(0, 1), ALL);
        due("local(0, 2)", t.local(0, 2), 0);
        due("local(0, 3)", t.local(0, 3), 0);
        due("local(0, 4)", t.local(0, 4), NONE);
        due("instruction(0, 2)", t.instruction(0, 2), 1);
        due("instruction(0, 5)", t.instruction(0, 5), 0);
        due("instruction(1, 2)", t.instruction(1, 2), 0);
        due("local(1, 0)", t.local(1, 0), NONE);
        t = loaded("1 1 1 0 END");
        due("local(0, 0)", t.local(0, 0), ALL);
        due("local(0, 1)", t.local(0, 1), 0);
        t = loaded("1 0 1 0 END");
        due("local(0, 0)", t.local(0, 0), 0);
    }

    private static void functionZeroCalled() {
        sentence("CALL joins its operands into the function's parameters (of function 0, too)");
        RangeTeller t = loaded("1 2 0 0 GET 0 IF 0 CONST 5 INPUT CALL 0 END END");
        due("local(0, 0)", t.local(0, 0), ALL);
        due("local(0, 1)", t.local(0, 1), ALL + TAINT);
        t = loaded("2 1 0 0 END 0 0 0 INPUT CALL 0 END");
        due("local(0, 0)", t.local(0, 0), ALL);
    }

    private static void calledFunctionsAreReached() {
        sentence("the first instruction of a function that an instruction which is reached calls is reached");
        reached("3 0 0 0 CALL 1 END 0 0 0 END 0 0 0 END", "1110");
        reached("3 0 0 0 CALL 2 END 0 0 0 END 0 0 0 END", "1101");
        reached("3 0 0 0 CALL 1 END 0 0 0 CALL 2 END 0 0 0 END", "11111");
        reached("3 0 0 0 END 0 0 0 CALL 2 END 0 0 0 CALL 1 END", "10000");
        reached("2 0 0 0 TRAP CALL 1 END 0 0 0 END", "1000");
        reached("2 0 0 0 CONST 0 IF 0 CALL 1 END END 0 0 0 END", "110010");
        reached("2 0 0 0 CALL 1 END 0 0 0 TRAP END", "1010");
    }

    private static void calledFunctionsBegin() {
        sentence("There the parameters have the function's ranges of them, the other locals 0.");
        RangeTeller t = loaded("2 0 0 0 CONST 5 CONST 63 CALL 1 CONST 9 CONST 0 CALL 1 END 2 2 0 CONST 8 SET 2 END");
        due("local(7, 0)", t.local(7, 0), range(5, 9));
        due("local(7, 1)", t.local(7, 1), range(0, 63));
        due("local(7, 2)", t.local(7, 2), 0);
        due("local(7, 3)", t.local(7, 3), 0);
        due("local(9, 2)", t.local(9, 2), range(8, 8));
        due("instruction(7, 5)", t.instruction(7, 5), 0);
        // The operand on top is the last parameter.
        t = loaded("2 0 0 0 CONST 5 INPUT CALL 1 END 2 0 0 END");
        due("local(4, 0)", t.local(4, 0), range(5, 5));
        due("local(4, 1)", t.local(4, 1), ALL + TAINT);
        // The last function has its own parameters, too.
        t = loaded("3 0 0 0 CONST 5 CONST 6 CALL 1 CONST 7 INPUT CALL 2 END 2 0 0 END 2 2 0 END");
        due("local(7, 0)", t.local(7, 0), range(5, 5));
        due("local(7, 1)", t.local(7, 1), range(6, 6));
        due("local(8, 0)", t.local(8, 0), range(7, 7));
        due("local(8, 1)", t.local(8, 1), ALL + TAINT);
        due("local(8, 2)", t.local(8, 2), 0);
        due("local(8, 3)", t.local(8, 3), 0);
        t = loaded("2 0 0 0 INPUT CONST 5 CALL 1 DROP END 1 0 0 END");
        due("local(5, 0)", t.local(5, 0), range(5, 5));
    }

    // ---- operations

    private static void sumsWrap() {
        sentence("the smallest range that has all results (sums are taken modulo 64)");
        pair("PLUS", 0, 0, 0, 0, range(0, 0));
        pair("PLUS", 0, 1, 62, 62, range(62, 63));
        pair("PLUS", 0, 1, 63, 63, range(0, 63));
        pair("PLUS", 1, 1, 63, 63, range(0, 0));
        pair("PLUS", 1, 2, 63, 63, range(0, 1));
        pair("PLUS", 63, 63, 63, 63, range(62, 62));
        pair("PLUS", 62, 63, 62, 63, range(60, 62));
        pair("PLUS", 0, 63, 5, 5, range(0, 63));
        pair("PLUS", 10, 20, 30, 43, range(40, 63));
        pair("PLUS", 10, 20, 30, 44, range(0, 63));
        pair("PLUS", 40, 50, 24, 24, range(0, 10));
    }

    private static void differencesWrap() {
        sentence("the smallest range that has all results (differences are taken modulo 64)");
        pair("MINUS", 0, 0, 0, 0, range(0, 0));
        pair("MINUS", 1, 2, 1, 1, range(0, 1));
        pair("MINUS", 0, 1, 1, 1, range(0, 63));
        pair("MINUS", 0, 0, 1, 1, range(63, 63));
        pair("MINUS", 0, 1, 2, 2, range(62, 63));
        pair("MINUS", 0, 0, 63, 63, range(1, 1));
        pair("MINUS", 20, 30, 10, 20, range(0, 20));
        pair("MINUS", 20, 30, 10, 21, range(0, 63));
        pair("MINUS", 10, 20, 21, 30, range(44, 63));
        pair("MINUS", 5, 5, 0, 63, range(0, 63));
        // That both are the same local is not known.
        leaves("GET 0 GET 0 MINUS", range(0, 63));
    }

    private static void productsWrap() {
        sentence("the smallest range that has all results (products are taken modulo 64)");
        pair("TIMES", 0, 0, 0, 63, range(0, 0));
        pair("TIMES", 1, 1, 5, 63, range(5, 63));
        pair("TIMES", 3, 7, 2, 9, range(6, 63));
        pair("TIMES", 8, 8, 8, 8, range(0, 0));
        pair("TIMES", 7, 8, 8, 8, range(0, 56));
        pair("TIMES", 63, 63, 63, 63, range(1, 1));
        pair("TIMES", 0, 63, 2, 2, range(0, 62));
        pair("TIMES", 0, 63, 32, 32, range(0, 32));
        pair("TIMES", 1, 1, 32, 33, range(32, 33));
        pair("TIMES", 2, 2, 32, 33, range(0, 2));
        pair("TIMES", 63, 63, 0, 1, range(0, 63));
        pair("TIMES", 9, 10, 7, 7, range(6, 63));
        pair("TIMES", 33, 33, 33, 33, range(1, 1));
        pair("TIMES", 5, 5, 51, 51, range(63, 63));
        pair("TIMES", 0, 63, 0, 63, range(0, 63));
        pair("TIMES", 0, 63, 63, 63, range(0, 63));
        pair("TIMES", 1, 63, 3, 3, range(1, 63));
        pair("TIMES", 5, 20, 6, 19, range(0, 63));
    }

    private static void quotients() {
        sentence("OVER ... without 0 for q");
        pair("OVER", 0, 63, 0, 63, range(0, 63));
        pair("OVER", 10, 63, 0, 1, range(10, 63));
        pair("OVER", 10, 63, 1, 1, range(10, 63));
        pair("OVER", 10, 63, 0, 2, range(5, 63));
        pair("OVER", 10, 63, 2, 3, range(3, 31));
        pair("OVER", 0, 62, 63, 63, range(0, 0));
        pair("OVER", 63, 63, 63, 63, range(1, 1));
        pair("OVER", 0, 63, 63, 63, range(0, 1));
    }

    private static void rests() {
        sentence("REST without 0 for q");
        pair("REST", 0, 63, 0, 63, range(0, 62));
        pair("REST", 0, 63, 0, 1, range(0, 0));
        pair("REST", 0, 63, 1, 1, range(0, 0));
        pair("REST", 0, 63, 0, 2, range(0, 1));
        pair("REST", 5, 7, 8, 8, range(5, 7));
        pair("REST", 5, 8, 8, 8, range(0, 7));
        pair("REST", 8, 9, 8, 8, range(0, 1));
        pair("REST", 0, 62, 63, 63, range(0, 62));
        pair("REST", 63, 63, 63, 63, range(0, 0));
        pair("REST", 9, 9, 5, 6, range(3, 4));
        pair("REST", 5, 6, 10, 63, range(5, 6));
        pair("REST", 5, 6, 6, 63, range(0, 6));
    }

    private static void dividingByZeroAlone() {
        sentence("if q has 0 alone, nothing is given on");
        for (String op : new String[] {"OVER", "REST"}) {
            pair(op, 0, 0, 0, 0, NONE);
            pair(op, 5, 63, 0, 0, NONE);
            RangeTeller t = loaded("1 0 0 0 INPUT CONST 0 " + op + " DROP END");
            due("instruction(2, 2)", t.instruction(2, 2), 1);
            due("instruction(2, 3)", t.instruction(2, 3), 4);
            due("instruction(3, 2)", t.instruction(3, 2), 0);
            due("function(0, 5)", t.function(0, 5), 0);
            leaves("INPUT INPUT CONST 0 BOTH " + op, NONE);
        }
    }

    private static void comparisons() {
        sentence("the smallest range that has all results (SAME, LESS: 1 or 0)");
        pair("SAME", 5, 5, 5, 5, range(1, 1));
        pair("SAME", 5, 5, 6, 6, range(0, 0));
        pair("SAME", 5, 6, 6, 7, range(0, 1));
        pair("SAME", 6, 7, 5, 6, range(0, 1));
        pair("SAME", 5, 6, 7, 8, range(0, 0));
        pair("SAME", 7, 8, 5, 6, range(0, 0));
        pair("SAME", 0, 63, 63, 63, range(0, 1));
        pair("SAME", 5, 6, 5, 6, range(0, 1));
        pair("LESS", 5, 5, 5, 5, range(0, 0));
        pair("LESS", 5, 6, 5, 5, range(0, 0));
        pair("LESS", 5, 5, 5, 6, range(0, 1));
        pair("LESS", 5, 5, 6, 7, range(1, 1));
        pair("LESS", 0, 63, 0, 0, range(0, 0));
        pair("LESS", 63, 63, 0, 63, range(0, 0));
        pair("LESS", 0, 62, 63, 63, range(1, 1));
        pair("LESS", 0, 63, 63, 63, range(0, 1));
        pair("LESS", 0, 0, 0, 63, range(0, 1));
        pair("LESS", 0, 0, 1, 63, range(1, 1));
    }

    private static void bitsAndNot() {
        sentence("the smallest range that has all results (the bits that both have; NOT)");
        pair("BOTH", 0, 63, 0, 63, range(0, 63));
        pair("BOTH", 0, 63, 15, 15, range(0, 15));
        pair("BOTH", 0, 63, 16, 16, range(0, 16));
        pair("BOTH", 63, 63, 5, 40, range(5, 40));
        pair("BOTH", 31, 32, 31, 32, range(0, 32));
        pair("BOTH", 32, 32, 31, 31, range(0, 0));
        pair("BOTH", 48, 63, 48, 63, range(48, 63));
        pair("BOTH", 8, 11, 12, 15, range(8, 11));
        pair("BOTH", 7, 8, 7, 7, range(0, 7));
        pair("BOTH", 7, 7, 7, 8, range(0, 7));
        pair("BOTH", 12, 15, 8, 11, range(8, 11));
        pair("BOTH", 52, 52, 39, 40, range(32, 36));
        pair("BOTH", 39, 40, 52, 52, range(32, 36));
        pair("BOTH", 23, 23, 31, 32, range(0, 23));
        pair("BOTH", 31, 32, 23, 23, range(0, 23));
        pair("BOTH", 20, 20, 7, 16, range(0, 16));
        pair("BOTH", 2, 3, 3, 3, range(2, 3));
        pair("BOTH", 3, 3, 1, 2, range(1, 2));
        leaves("CONST 0 NOT", range(1, 1));
        leaves("CONST 1 NOT", range(0, 0));
        leaves("CONST 63 NOT", range(0, 0));
        leaves(span(0, 1) + "NOT", range(0, 1));
        leaves(span(1, 63) + "NOT", range(0, 0));
        leaves("GET 0 NOT", range(0, 1));
    }

    private static void operationsTaint() {
        sentence("tainted if one operand is");
        leaves("INPUT NOT", range(0, 1) + TAINT);
        leaves("CONST 3 NOT", range(0, 0));
        for (int op = 19; op <= 26; op++) {
            RangeTeller t = loaded("1 0 0 0 CONST 9 CONST 3 " + NAMES.get(op) + " DROP END");
            int plain = t.operand(3, 0);
            due("operand(3, 0) below 4096", plain < TAINT, true);
            String nine = "CONST 0 INPUT TIMES CONST 9 PLUS ";
            String three = "CONST 0 INPUT TIMES CONST 3 PLUS ";
            t = loaded("1 0 0 0 CONST 9 " + three + NAMES.get(op) + " DROP END");
            due("operand(7, 0)", t.operand(7, 0), plain + TAINT);
            t = loaded("1 0 0 0 " + nine + "CONST 3 " + NAMES.get(op) + " DROP END");
            due("operand(7, 0)", t.operand(7, 0), plain + TAINT);
            t = loaded("1 0 0 0 " + nine + three + NAMES.get(op) + " DROP END");
            due("operand(11, 0)", t.operand(11, 0), plain + TAINT);
        }
    }

    private static void constantsAndInputs() {
        sentence("CONST its value modulo 64, untainted; INPUT all values, tainted.");
        for (int v : new int[] {0, 1, 31, 32, 63}) {
            leaves("CONST " + v, range(v, v));
        }
        leaves("INPUT", ALL + TAINT);
    }

    // ---- PICK

    private static void pickByCondition() {
        sentence("PICK: a's range if c can't be 0, b's if c can only be 0, else both joined");
        String a = span(10, 12);
        String b = span(20, 22);
        leaves(a + b + "CONST 0 PICK", range(20, 22));
        leaves(a + b + "CONST 1 PICK", range(10, 12));
        leaves(a + b + "CONST 63 PICK", range(10, 12));
        leaves(a + b + span(1, 63) + "PICK", range(10, 12));
        leaves(a + b + span(0, 1) + "PICK", range(10, 22));
        leaves(a + b + "GET 1 PICK", range(10, 22));
        leaves(b + a + "GET 1 PICK", range(10, 22));
    }

    private static void pickTaints() {
        sentence("PICK: ... tainted also if c is");
        String zero = "INPUT CONST 0 TIMES ";
        leaves("CONST 4 CONST 9 " + zero + "PICK", range(9, 9) + TAINT);
        leaves("CONST 4 CONST 9 " + zero + "NOT PICK", range(4, 4) + TAINT);
        leaves("CONST 4 CONST 9 INPUT PICK", range(4, 9) + TAINT);
        // What isn't picked taints nothing.
        leaves("INPUT CONST 9 CONST 0 PICK", range(9, 9));
        leaves("CONST 4 INPUT CONST 1 PICK", range(4, 4));
        leaves("INPUT CONST 9 CONST 1 PICK", ALL + TAINT);
        leaves("CONST 4 INPUT CONST 0 PICK", ALL + TAINT);
        leaves("CONST 4 INPUT GET 0 PICK", ALL + TAINT);
        leaves("INPUT CONST 4 GET 0 PICK", ALL + TAINT);
    }

    // ---- LOAD and STORE

    /** Puts 0 .. 30 + k into cell k for k = 0, 7, 15. */
    private static String filled() {
        return "CONST 0 CONST 30 STORE 0 CONST 7 CONST 37 STORE 0 CONST 15 CONST 45 STORE 0 ";
    }

    private static void loadCells() {
        sentence("LOAD: the cells that the address can mean, joined (nothing is given on if it can mean none)");
        leaves(filled() + "CONST 0 LOAD 0", range(0, 30));
        leaves(filled() + "CONST 1 LOAD 0", range(0, 0));
        leaves(filled() + "CONST 15 LOAD 0", range(0, 45));
        leaves(filled() + "CONST 0 LOAD 15", range(0, 45));
        leaves(filled() + "CONST 16 LOAD 0", NONE);
        leaves(filled() + "CONST 0 LOAD 16", NONE);
        leaves(filled() + span(14, 20) + "LOAD 0", range(0, 45));
        leaves(filled() + span(15, 63) + "LOAD 0", range(0, 45));
        leaves(filled() + span(16, 63) + "LOAD 0", NONE);
        leaves(filled() + span(0, 7) + "LOAD 0", range(0, 37));
        leaves(filled() + span(0, 6) + "LOAD 0", range(0, 30));
        leaves(filled() + span(1, 6) + "LOAD 0", range(0, 0));
        leaves(filled() + span(1, 6) + "LOAD 1", range(0, 37));
        leaves(filled() + span(8, 14) + "LOAD 0", range(0, 0));
        leaves(filled() + span(8, 14) + "LOAD 1", range(0, 45));
        leaves(filled() + "GET 0 LOAD 0", range(0, 45));
        leaves(filled() + "GET 0 LOAD 15", range(0, 45));
        leaves(filled() + "GET 0 LOAD 16", NONE);
        leaves(filled() + "GET 0 LOAD 63", NONE);
        // No address wraps around to the first cells.
        leaves(filled() + "CONST 63 LOAD 1", NONE);
        leaves(filled() + span(7, 63) + "LOAD 1", range(0, 45));
        leaves("CONST 0 CONST 30 STORE 0 " + span(1, 63) + "LOAD 1", range(0, 0));
    }

    private static void loadTaints() {
        sentence("LOAD: ... tainted also if the address is");
        leaves("INPUT LOAD 0", TAINT);
        leaves("GET 0 LOAD 0", 0);
        leaves("CONST 3 INPUT STORE 0 CONST 3 LOAD 0", ALL + TAINT);
        leaves("CONST 3 INPUT STORE 0 CONST 4 LOAD 0", 0);
        leaves("CONST 3 INPUT STORE 0 " + span(0, 3) + "LOAD 0", ALL + TAINT);
        leaves("INPUT LOAD 16", NONE);
    }

    /** The cells from first to last get 0 .. 9 by a STORE, the others stay 0. */
    private static void storesInto(String address, int offset, int first, int last) {
        RangeTeller t = loaded("1 1 0 0 " + address + "CONST 9 STORE " + offset + " CONST 1 DROP END");
        for (int k = 0; k < 16; k++) {
            due("cell(" + k + ")", t.cell(k), k >= first && k <= last ? range(0, 9) : 0);
        }
        int end = instructionCount(t) - 1;
        due("instruction(" + end + ", 2)", t.instruction(end, 2), first <= last ? 1 : 0);
        due("function(0, 5)", t.function(0, 5), first <= last ? 1 : 0);
    }

    private static void storeCells() {
        sentence("STORE joins the value into all cells that the address can mean (nothing is given on if it can mean "
            + "none)");
        storesInto("CONST 0 ", 0, 0, 0);
        storesInto("CONST 15 ", 0, 15, 15);
        storesInto("CONST 0 ", 15, 15, 15);
        storesInto("CONST 16 ", 0, 1, 0);
        storesInto("CONST 0 ", 16, 1, 0);
        storesInto("CONST 63 ", 1, 1, 0);
        storesInto("GET 0 ", 0, 0, 15);
        storesInto("GET 0 ", 1, 1, 15);
        storesInto("GET 0 ", 15, 15, 15);
        storesInto("GET 0 ", 16, 1, 0);
        storesInto("GET 0 ", 63, 1, 0);
        storesInto(span(3, 5), 0, 3, 5);
        storesInto(span(3, 5), 10, 13, 15);
        storesInto(span(3, 5), 11, 14, 15);
        storesInto(span(3, 5), 12, 15, 15);
        storesInto(span(3, 5), 13, 1, 0);
        storesInto(span(60, 63), 4, 1, 0);
    }

    private static void storeTaints() {
        sentence("STORE joins the value ... tainted also if the address is");
        RangeTeller t = loaded("1 1 0 0 INPUT CONST 3 BOTH CONST 0 STORE 2 CONST 9 INPUT STORE 0 "
            + "GET 0 CONST 5 STORE 12 END");
        int[] want = new int[16];
        for (int k = 2; k <= 5; k++) {
            want[k] = TAINT;
        }
        want[9] = ALL + TAINT;
        for (int k = 12; k <= 15; k++) {
            want[k] = range(0, 5);
        }
        for (int k = 0; k < 16; k++) {
            due("cell(" + k + ")", t.cell(k), want[k]);
        }
    }

    private static void storesReachLoads() {
        sentence("to each cell of the memory ... belongs a range (one for all places of the module)");
        RangeTeller t = loaded("2 1 0 1 CONST 3 LOAD 0 CALL 1 END 0 0 0 CONST 3 CONST 41 STORE 0 END");
        due("function(0, 4)", t.function(0, 4), range(0, 41));
        due("operand(2, 0)", t.operand(2, 0), range(0, 41));
        // A STORE that isn't reached stores nothing.
        t = loaded("2 1 0 1 CONST 3 LOAD 0 END 0 0 0 CONST 3 CONST 41 STORE 0 END");
        due("function(0, 4)", t.function(0, 4), 0);
        due("cell(3)", t.cell(3), 0);
    }

    // ---- conditions and frames

    private static void ifLeads() {
        sentence("IF ... give on only where the condition can lead");
        String tail = "IF 0 BLOCK 0 END ELSE LOOP 0 END END END";
        reached("1 1 0 0 CONST 0 " + tail, "110001111");
        reached("1 1 0 0 CONST 1 " + tail, "111110001");
        reached("1 1 0 0 CONST 63 " + tail, "111110001");
        reached("1 1 0 0 GET 0 " + tail, "111111111");
        reached("1 1 0 0 GET 0 CONST 1 OVER CONST 1 BOTH " + tail, "1111111111111");
        reached("1 1 0 0 GET 0 IF 0 TRAP END END", "11101");
        reached("1 1 0 0 CONST 0 IF 0 TRAP END END", "11001");
        reached("1 1 0 0 CONST 5 IF 0 TRAP END END", "11100");
        reached("1 1 0 0 CONST 5 IF 0 END END", "1111");
    }

    private static void branchIfLeads() {
        sentence("BRANCH IF give on only where the condition can lead");
        reached("1 1 0 0 BLOCK 0 CONST 0 BRANCHIF 0 TRAP END END", "111100");
        reached("1 1 0 0 BLOCK 0 CONST 1 BRANCHIF 0 TRAP END END", "111001");
        reached("1 1 0 0 BLOCK 0 CONST 63 BRANCHIF 0 TRAP END END", "111001");
        reached("1 1 0 0 BLOCK 0 GET 0 BRANCHIF 0 TRAP END END", "111101");
        reached("1 1 0 0 LOOP 0 CONST 1 BRANCHIF 0 END END", "11100");
        reached("1 1 0 0 LOOP 0 CONST 0 BRANCHIF 0 END END", "11111");
    }

    private static void nothingIsNarrowed() {
        sentence("(no range is narrowed by that)");
        leaves("GET 0 IF 1 GET 0 ELSE CONST 5 END", ALL);
        leaves("GET 0 IF 1 CONST 5 ELSE GET 0 END", ALL);
        leaves("BLOCK 1 GET 0 GET 0 BRANCHIF 0 DROP GET 0 NOT END", ALL);
        RangeTeller t = loaded("1 1 0 0 GET 0 IF 0 GET 0 NOT DROP ELSE GET 0 NOT DROP END END");
        due("operand(4, 0)", t.operand(4, 0), range(0, 1));
        due("local(3, 0)", t.local(3, 0), ALL);
        due("local(7, 0)", t.local(7, 0), ALL);
    }

    private static void framesGiveOn() {
        sentence("An instruction that is reached gives its ranges on to those where a run could go on");
        reached("1 1 0 0 BLOCK 0 BRANCH 0 INPUT DROP END END", "110001");
        reached("1 1 0 0 LOOP 0 BRANCH 0 INPUT DROP END END", "110000");
        reached("1 1 0 0 GET 0 IF 0 BRANCH 0 ELSE BRANCH 0 END END", "1110101");
        reached("1 1 0 0 GET 0 IF 0 BRANCH 1 ELSE END END", "111011");
        reached("1 1 0 0 BLOCK 0 BLOCK 0 BRANCH 1 END END END", "111001");
        reached("1 1 0 0 RETURN END", "10");
        leaves("CONST 50 BLOCK 1 CONST 1 CONST 2 CONST 3 BRANCH 0 END MINUS", range(47, 47));
        leaves("CONST 50 BLOCK 1 CONST 1 CONST 2 GET 0 BRANCHIF 0 PLUS END MINUS", range(47, 48));
        leaves("CONST 50 BLOCK 0 CONST 1 CONST 2 BRANCH 0 END", range(50, 50));
    }

    private static void loopsGrow() {
        sentence("These are the smallest ones for which this holds");
        RangeTeller t = loaded("1 1 1 1 LOOP 0 GET 1 CONST 1 PLUS TEE 1 GET 0 LESS BRANCHIF 0 END GET 1 END");
        due("local(1, 1)", t.local(1, 1), range(0, 63));
        due("function(0, 4)", t.function(0, 4), range(0, 63));
        // Steps of 2 up to 20, held there by a rest.
        t = loaded("1 1 1 1 LOOP 0 GET 1 CONST 2 PLUS CONST 20 REST SET 1 GET 0 BRANCHIF 0 END GET 1 END");
        due("local(1, 1)", t.local(1, 1), range(0, 19));
        // A value that doubles until only 0 is left of it, joined with all it was.
        t = loaded("1 1 1 1 CONST 1 SET 1 LOOP 0 GET 1 CONST 2 TIMES SET 1 GET 0 BRANCHIF 0 END GET 1 END");
        due("local(3, 1)", t.local(3, 1), range(0, 62));
        // Nothing grows where what comes round is what was there.
        t = loaded("1 1 1 1 CONST 7 SET 1 LOOP 0 GET 1 TEE 1 DROP GET 0 BRANCHIF 0 END GET 1 END");
        due("local(3, 1)", t.local(3, 1), range(7, 7));
    }

    private static void memoryGrows() {
        sentence("These are the smallest ones for which this holds (what grows by 1 goes through a cell each time)");
        RangeTeller t = loaded("1 1 0 0 LOOP 0 CONST 5 CONST 5 LOAD 0 CONST 1 PLUS STORE 0 GET 0 BRANCHIF 0 END END");
        due("cell(5)", t.cell(5), ALL);
        due("operand(5, 0)", t.operand(5, 0), range(1, 1));
        due("operand(5, 1)", t.operand(5, 1), ALL);
        // Up to 9 alone: from there the rest leads back to 0.
        t = loaded("1 1 0 0 LOOP 0 CONST 5 CONST 5 LOAD 0 CONST 1 PLUS CONST 10 REST STORE 0 GET 0 BRANCHIF 0 END END");
        due("cell(5)", t.cell(5), range(0, 9));
        due("operand(7, 0)", t.operand(7, 0), range(10, 10));
        due("operand(7, 1)", t.operand(7, 1), range(1, 10));
        due("operand(8, 0)", t.operand(8, 0), range(0, 9));
        // From cell to cell, the last one first, so that each round tells one cell more.
        StringBuilder chain = new StringBuilder("1 1 0 0 LOOP 0 ");
        for (int c = 10; c > 0; c--) {
            chain.append("CONST ").append(c).append(" CONST ").append(c - 1).append(" LOAD 0 STORE 0 ");
        }
        t = loaded(chain + "CONST 0 INPUT STORE 0 GET 0 BRANCHIF 0 END END");
        for (int c = 0; c < 16; c++) {
            due("cell(" + c + ")", t.cell(c), c < 11 ? ALL + TAINT : 0);
        }
    }

    private static void callsGrow() {
        sentence("These are the smallest ones for which this holds (what grows by 1 goes through a call each time)");
        // The parameter grows from 3 to 40 with each call within a call; from there the rest leads back to 0.
        RangeTeller t = loaded("2 0 0 1 CONST 3 CALL 1 END 1 0 1 GET 0 CONST 40 LESS IF 1 GET 0 CONST 1 PLUS CONST 41 "
            + "REST CALL 1 ELSE GET 0 END END");
        due("local(3, 0)", t.local(3, 0), range(0, 40));
        due("function(1, 4)", t.function(1, 4), range(0, 40));
        due("operand(2, 0)", t.operand(2, 0), range(0, 40));
        // Without a rest nothing holds it: no range is narrowed by the condition.
        t = loaded("2 0 0 1 CONST 3 CALL 1 END 1 0 1 GET 0 CONST 40 LESS IF 1 GET 0 CONST 1 PLUS CALL 1 ELSE GET 0 "
            + "END END");
        due("local(3, 0)", t.local(3, 0), ALL);
        due("function(1, 4)", t.function(1, 4), ALL);
        // The result grows by 1 with each call that ended.
        t = loaded("2 0 0 1 CALL 1 END 0 0 1 INPUT IF 1 CONST 7 ELSE CALL 1 CONST 1 PLUS CONST 30 REST END END");
        due("function(1, 4)", t.function(1, 4), range(0, 29));
        due("operand(1, 0)", t.operand(1, 0), range(0, 29));
    }

    // ---- calls

    private static void callGivesOn() {
        sentence("CALL joins its operands into the function's parameters, and gives on with the function's result "
            + "range");
        RangeTeller t = loaded("2 0 0 1 CONST 50 CONST 3 CALL 1 MINUS END 1 0 1 GET 0 CONST 1 PLUS END");
        due("local(5, 0)", t.local(5, 0), range(3, 3));
        due("function(1, 4)", t.function(1, 4), range(4, 4));
        due("operand(3, 0)", t.operand(3, 0), range(4, 4));
        due("operand(3, 1)", t.operand(3, 1), range(50, 50));
        due("operand(3, 2)", t.operand(3, 2), NONE);
        // All calls are given the same range.
        t = loaded("2 0 0 0 CONST 3 CALL 1 DROP INPUT CALL 1 DROP END 1 0 1 GET 0 END");
        due("operand(2, 0)", t.operand(2, 0), ALL + TAINT);
        due("operand(5, 0)", t.operand(5, 0), ALL + TAINT);
        // The locals of the caller stay as they are.
        t = loaded("2 0 1 0 CONST 3 SET 0 CALL 1 END 0 1 0 CONST 9 SET 0 END");
        due("local(3, 0)", t.local(3, 0), range(3, 3));
    }

    private static void callOfWhatCannotEnd() {
        sentence("(nothing, as long as the function gives no result; for a function without results: unless it CAN "
            + "END)");
        reached("2 0 0 0 CALL 1 END 0 0 0 TRAP END", "1010");
        reached("2 0 0 0 CALL 1 END 0 0 0 END", "111");
        reached("2 0 0 0 CALL 1 DROP END 0 0 1 TRAP END", "10010");
        reached("2 0 0 0 CALL 1 DROP END 0 0 1 CONST 1 END", "11111");
        reached("1 0 0 0 CALL 0 END", "10");
        reached("1 0 0 1 CALL 0 END", "10");
        reached("1 1 0 0 GET 0 IF 0 INPUT CALL 0 END END", "111111");
        reached("2 0 0 0 CALL 1 END 0 0 0 LOOP 0 BRANCH 0 END END", "101100");
        reached("2 0 0 0 CALL 1 END 0 0 0 INPUT LOAD 16 DROP END", "101100");
        reached("2 0 0 0 CALL 1 END 0 0 0 CALL 0 END", "1010");
    }

    private static void resultsJoin() {
        sentence("A function's END that is reached, a RETURN, a BRANCH and (where its condition can be other than 0) "
            + "a BRANCH IF to the function join into the function's result");
        String[] ways = {"GET 0 IF 0 CONST 9 RETURN END CONST 4", "GET 0 IF 0 CONST 9 BRANCH 1 END CONST 4",
            "CONST 9 GET 0 BRANCHIF 0 DROP CONST 4", "BLOCK 0 CONST 9 GET 0 BRANCHIF 1 DROP END CONST 4",
            "GET 0 IF 1 CONST 9 ELSE CONST 4 END"};
        for (String way : ways) {
            RangeTeller t = loaded("1 1 0 1 " + way + " END");
            due("function(0, 4)", t.function(0, 4), range(4, 9));
            due("function(0, 5)", t.function(0, 5), 1);
        }
        String[] alone = {"CONST 9 CONST 0 BRANCHIF 0 DROP CONST 4", "CONST 4 RETURN CONST 9 BRANCH 0",
            "CONST 4 CONST 1 BRANCHIF 0 DROP CONST 9"};
        for (String way : alone) {
            RangeTeller t = loaded("1 1 0 1 " + way + " END");
            due("function(0, 4)", t.function(0, 4), range(4, 4));
        }
    }

    private static void canEnd() {
        sentence("it CAN END if one of these is reached");
        String[] bodies = {"END", "RETURN END", "BRANCH 0 END", "GET 0 BRANCHIF 0 TRAP END",
            "CONST 1 BRANCHIF 0 TRAP END", "CONST 0 BRANCHIF 0 TRAP END", "TRAP END", "TRAP RETURN END",
            "LOOP 0 BRANCH 0 END END", "LOOP 0 GET 0 BRANCHIF 0 END END",
            "LOOP 0 GET 0 BRANCHIF 1 BRANCH 0 END END", "GET 0 CALL 0 END"};
        int[] want = {1, 1, 1, 1, 1, 0, 0, 0, 0, 1, 1, 0};
        for (int i = 0; i < bodies.length; i++) {
            RangeTeller t = loaded("2 1 0 0 " + bodies[i] + " 0 0 0 END");
            due("function(0, 5)", t.function(0, 5), want[i]);
            due("function(0, 4)", t.function(0, 4), NONE);
            due("function(1, 5), which isn't reached", t.function(1, 5), 0);
        }
    }

    private static void trapGivesNothingOn() {
        sentence("TRAP gives nothing on.");
        reached("1 0 0 0 TRAP END", "10");
        reached("1 0 0 0 BLOCK 0 TRAP END END", "1100");
        leaves("TRAP", NONE);
    }

    // ---- FLAGS

    private static void flagged(String text, int want) {
        int k = starred(text);
        RangeTeller t = loaded("1 1 0 0 " + text.replace("*", "") + " END");
        due("instruction(" + k + ", 3)", t.instruction(k, 3), want);
    }

    private static void flagOfTrap() {
        sentence("FLAGS of an instruction that is reached: 1 it is a TRAP");
        flagged("*TRAP", 1);
        flagged("RETURN *TRAP", 0);
        flagged("CONST 0 IF 0 *TRAP END", 0);
        flagged("GET 0 IF 0 *TRAP END", 1);
        flagged("*RETURN", 0);
        flagged("*BRANCH 0", 0);
        flagged("GET 0 *CALL 0", 0);
    }

    private static void flagOfLoad() {
        sentence("2 the address plus o can be above 15 (LOAD)");
        flagged("CONST 0 *LOAD 0 DROP", 0);
        flagged("CONST 15 *LOAD 0 DROP", 0);
        flagged("CONST 16 *LOAD 0 DROP", 2);
        flagged("CONST 0 *LOAD 15 DROP", 0);
        flagged("CONST 0 *LOAD 16 DROP", 2);
        flagged("CONST 63 *LOAD 1 DROP", 2);
        flagged("CONST 63 *LOAD 63 DROP", 2);
        flagged(span(0, 15) + "*LOAD 0 DROP", 0);
        flagged(span(0, 16) + "*LOAD 0 DROP", 2);
        flagged(span(0, 15) + "*LOAD 1 DROP", 2);
        flagged(span(0, 1) + "*LOAD 14 DROP", 0);
        flagged(span(0, 1) + "*LOAD 15 DROP", 2);
        flagged("GET 0 *LOAD 0 DROP", 2);
        flagged("TRAP GET 0 *LOAD 0 DROP", 0);
    }

    private static void flagOfStore() {
        sentence("2 the address plus o can be above 15 (STORE)");
        flagged("CONST 0 CONST 63 *STORE 0", 0);
        flagged("CONST 15 CONST 63 *STORE 0", 0);
        flagged("CONST 16 CONST 0 *STORE 0", 2);
        flagged("CONST 0 CONST 63 *STORE 15", 0);
        flagged("CONST 0 CONST 0 *STORE 16", 2);
        flagged("CONST 63 CONST 0 *STORE 1", 2);
        flagged(span(0, 15) + "GET 0 *STORE 0", 0);
        flagged(span(0, 16) + "CONST 0 *STORE 0", 2);
        flagged(span(0, 15) + "CONST 0 *STORE 1", 2);
        flagged("GET 0 INPUT *STORE 0", 2);
        flagged("TRAP GET 0 GET 0 *STORE 0", 0);
    }

    private static void flagOfZero() {
        sentence("4 q can be 0 for OVER and REST");
        for (String op : new String[] {"OVER", "REST"}) {
            flagged("GET 0 CONST 0 *" + op + " DROP", 4);
            flagged("GET 0 CONST 1 *" + op + " DROP", 0);
            flagged("GET 0 GET 0 *" + op + " DROP", 4);
            flagged("CONST 0 " + span(1, 63) + "*" + op + " DROP", 0);
            flagged("CONST 0 " + span(0, 1) + "*" + op + " DROP", 4);
            flagged("CONST 0 CONST 63 *" + op + " DROP", 0);
            flagged("TRAP GET 0 CONST 0 *" + op + " DROP", 0);
        }
        for (int op = 19; op <= 26; op++) {
            if (op != 24 && op != 25) {
                flagged("GET 0 CONST 0 *" + NAMES.get(op) + " DROP", 0);
            }
        }
    }

    private static void flagOfOutput() {
        sentence("8 it is an OUTPUT of a tainted operand");
        flagged("INPUT *OUTPUT", 8);
        flagged("GET 0 *OUTPUT", 0);
        flagged("CONST 63 *OUTPUT", 0);
        flagged("INPUT CONST 0 TIMES *OUTPUT", 8);
        flagged("INPUT GET 0 *OUTPUT DROP", 0);
        flagged("GET 0 INPUT *OUTPUT DROP", 8);
        flagged("INPUT *DROP", 0);
        flagged("INPUT *SET 0", 0);
        flagged("TRAP INPUT *OUTPUT", 0);
        flagged("INPUT IF 0 CONST 1 *OUTPUT END", 0);
    }
}
