import java.util.Arrays;

/** The boundary cases that the sentences on BYTES, OPS and READING name, each by itself. */
public final class ReadingEdgesTest extends Bench {
    public static void main(String[] args) {
        numbers();
        numbersSecondByte();
        functionCount();
        nothingBehindTheFunctions();
        parameterCount();
        moreLocalCount();
        resultCount();
        numberingOfInstructions();
        numberingOfLocals();
        argumentsOfOps();
        noOps();
        openersOperands();
        anyNumbersAsFarAsReadingGoes();
        firstByteThatCannotStandThere();
        elseWithoutIf();
        elseOfWhatWasOpenedLast();
        elseTwice();
        endsEndWhatWasOpenedLast();
        endTooEarly();
        finish();
    }

    // ---- BYTES

    /** The argument of a CONST that is written with these bytes. */
    private static void number(int want, int... bytes) {
        about = Arrays.toString(bytes);
        RangeTeller t = new RangeTeller();
        feed(t, 1, 0, 0, 0, 17);
        feed(t, bytes);
        feed(t, 10, 5);
        due("load()", t.load(), 3);
        due("instruction(0, 1)", t.instruction(0, 1), want);
        due("operand(1, 0)", t.operand(1, 0), range(want, want));
    }

    private static void numbers() {
        sentence("A NUMBER is one byte below 32, that is it; or a byte b of 32 or more and behind it 0 or 1: "
            + "it is b - 32 + 32 times that.");
        number(0, 0);
        number(1, 1);
        number(31, 31);
        number(0, 32, 0);
        number(1, 33, 0);
        number(31, 63, 0);
        number(32, 32, 1);
        number(33, 33, 1);
        number(63, 63, 1);
    }

    private static void numbersSecondByte() {
        sentence("MALFORMED at ... the second byte of a number that isn't 0 or 1");
        for (int first : new int[] {32, 33, 63}) {
            for (int second : new int[] {2, 5, 31, 32, 33, 63}) {
                malformed(1, first, second, 0, 0, 0, 5);
                malformed(2, 1, first, second, 0, 0, 5);
                malformed(3, 1, 0, first, second, 0, 5);
                malformed(4, 1, 0, 0, first, second, 5);
                for (int op : new int[] {1, 2, 3, 6, 7, 9, 12, 13, 14, 15, 16, 17}) {
                    malformed(6, 1, 0, 0, 0, op, first, second, 5);
                }
            }
        }
    }

    private static void functionCount() {
        sentence("A MODULE: a number of functions (1 .. 3)");
        malformed(0, 0, 0, 0, 0, 5);
        malformed(1, 32, 0, 0, 0, 0, 5);
        answers(new int[] {1, 0, 0, 0, 5}, 1, NONE);
        answers(new int[] {33, 0, 0, 0, 0, 5}, 1, NONE);
        answers(new int[] {2, 0, 0, 0, 5, 0, 0, 0, 5}, 2, NONE);
        answers(new int[] {3, 0, 0, 0, 5, 0, 0, 0, 5, 0, 0, 0, 5}, 3, NONE);
        answers(new int[] {35, 0, 0, 0, 0, 5, 0, 0, 0, 5, 0, 0, 0, 5}, 3, NONE);
        malformed(0, 4, 0, 0, 0, 5, 0, 0, 0, 5, 0, 0, 0, 5, 0, 0, 0, 5);
        malformed(0, 31, 0, 0, 0, 5);
        malformed(1, 36, 0, 0, 0, 0, 5, 0, 0, 0, 5, 0, 0, 0, 5, 0, 0, 0, 5);
        malformed(1, 33, 1, 0, 0, 0, 5);
        malformed(1, 63, 1, 0, 0, 0, 5);
    }

    private static void nothingBehindTheFunctions() {
        sentence("nothing behind them; MALFORMED at ... a byte behind the last function");
        for (int more : new int[] {0, 1, 4, 5, 28, 29, 63}) {
            malformed(5, 1, 0, 0, 0, 5, more);
            malformed(9, 2, 0, 0, 0, 5, 0, 0, 0, 5, more);
            malformed(13, 3, 0, 0, 0, 5, 0, 0, 0, 5, 0, 0, 0, 5, more);
        }
        malformed(5, 1, 0, 0, 0, 5, 0, 0, 0, 5);
    }

    private static void parameterCount() {
        sentence("how many PARAMETERS (0 .. 2)");
        for (int n = 0; n <= 2; n++) {
            answers(new int[] {1, n, 0, 0, 5}, 1, NONE);
            answers(new int[] {1, 32 + n, 0, 0, 0, 5}, 1, NONE);
            answers(new int[] {2, 0, 0, 0, 5, n, 0, 0, 5}, 2, NONE);
            malformed(2, 1, 32 + n, 1, 0, 0, 5);
        }
        malformed(1, 1, 3, 0, 0, 5);
        malformed(1, 1, 31, 0, 0, 5);
        malformed(2, 1, 35, 0, 0, 0, 5);
        malformed(5, 2, 0, 0, 0, 5, 3, 0, 0, 5);
    }

    private static void moreLocalCount() {
        sentence("more LOCALS (0 .. 2)");
        for (int n = 0; n <= 2; n++) {
            answers(new int[] {1, 2, n, 0, 5}, 1, NONE);
            answers(new int[] {1, 2, 32 + n, 0, 0, 5}, 1, NONE);
            malformed(3, 1, 0, 32 + n, 1, 0, 5);
        }
        malformed(2, 1, 0, 3, 0, 5);
        malformed(2, 1, 2, 31, 0, 5);
        malformed(3, 1, 0, 35, 0, 0, 5);
        malformed(6, 2, 0, 0, 0, 5, 0, 3, 0, 5);
    }

    private static void resultCount() {
        sentence("RESULTS (0 or 1) it has");
        answers(new int[] {1, 0, 0, 0, 5}, 1, NONE);
        answers(new int[] {1, 0, 0, 1, 27, 5}, 2, NONE);
        answers(new int[] {1, 0, 0, 33, 0, 27, 5}, 2, NONE);
        malformed(3, 1, 0, 0, 2, 27, 5);
        malformed(3, 1, 0, 0, 31, 27, 5);
        malformed(4, 1, 0, 0, 34, 0, 27, 5);
        malformed(4, 1, 0, 0, 32, 1, 27, 5);
        malformed(7, 2, 0, 0, 0, 5, 0, 0, 2, 5);
    }

    private static void numberingOfInstructions() {
        sentence("Instructions are numbered from 0 through the whole module.");
        RangeTeller t = loaded("3 0 0 0 END 0 0 0 TRAP END 0 0 0 CONST 40 DROP END");
        int[] ops = {5, 0, 5, 17, 10, 5};
        for (int k = 0; k < ops.length; k++) {
            due("instruction(" + k + ", 0)", t.instruction(k, 0), ops[k]);
        }
        due("instruction(6, 0)", t.instruction(6, 0), NONE);
    }

    private static void numberingOfLocals() {
        sentence("The parameters are locals 0 .., the others come behind them.");
        gives("GET 0", 11, 22, 11);
        gives("GET 1", 11, 22, 22);
        gives("GET 2", 11, 22, 0);
        gives("GET 3", 11, 22, 0);
        gives("CONST 5 SET 1 GET 0", 11, 22, 11);
        gives("CONST 5 SET 2 GET 1", 11, 22, 22);
        gives("CONST 5 SET 3 GET 2", 11, 22, 0);
        gives("CONST 5 TEE 2 DROP GET 3", 11, 22, 0);
    }

    // ---- OPS

    private static void argumentsOfOps() {
        sentence("An instruction is a byte, its OP, and for some a number, its ARGUMENT.");
        for (int op = 0; op <= 28; op++) {
            if (op == 4 || op == 5) {
                continue;
            }
            // Behind an op without an argument the byte 0 is a TRAP.
            boolean opens = op >= 1 && op <= 3;
            boolean argument = opens || op == 6 || op == 7 || op == 9 || op >= 12 && op <= 17;
            about = "op " + op;
            RangeTeller t = new RangeTeller();
            feed(t, 1, 1, 0, 0, 27, 27, 27, op, 0, 0);
            feed(t, opens ? new int[] {5, 0, 5} : new int[] {5});
            due("load()", t.load(), 6 + (argument ? 0 : 1) + (opens ? 2 : 0));
            due("instruction(3, 0)", t.instruction(3, 0), op);
            due("instruction(3, 1)", t.instruction(3, 1), 0);
            due("instruction(4, 0)", t.instruction(4, 0), 0);
            due("instruction(5, 0)", t.instruction(5, 0), argument ? 5 : 0);
        }
    }

    private static void noOps() {
        sentence("The other bytes are no ops.");
        for (int b = 29; b <= 63; b++) {
            malformed(4, 1, 0, 0, 0, b);
            malformed(5, 1, 0, 0, 0, 0, b, 0, 5);
        }
        answers(new int[] {1, 0, 0, 0, 0, 28, 5}, 3, NONE);
        answers(new int[] {1, 0, 0, 0, 0, 0, 5}, 3, NONE);
    }

    private static void openersOperands() {
        sentence("1 BLOCK r, 2 LOOP r, 3 IF r (r is 0 or 1)");
        for (int op = 1; op <= 3; op++) {
            answers(new int[] {1, 0, 0, 0, 27, op, 0, 0, 5, 0, 5}, 6, NONE);
            answers(new int[] {1, 0, 0, 0, 27, op, 32, 0, 0, 5, 0, 5}, 6, NONE);
            malformed(6, 1, 0, 0, 0, 27, op, 2, 0, 5, 0, 5);
            malformed(6, 1, 0, 0, 0, 27, op, 31, 0, 5, 0, 5);
            malformed(7, 1, 0, 0, 0, 27, op, 34, 0, 0, 5, 0, 5);
            malformed(7, 1, 0, 0, 0, 27, op, 32, 1, 0, 5, 0, 5);
            malformed(7, 1, 0, 0, 0, 27, op, 33, 1, 0, 5, 0, 5);
        }
        answers(new int[] {1, 0, 0, 0, 1, 1, 0, 5, 0, 5}, 5, NONE);
        answers(new int[] {1, 0, 0, 0, 2, 33, 0, 0, 5, 0, 5}, 5, NONE);
        answers(new int[] {1, 0, 0, 0, 27, 3, 1, 0, 4, 0, 5, 0, 5}, 8, NONE);
    }

    private static void anyNumbersAsFarAsReadingGoes() {
        sentence("(v, i, f, n, o are any numbers as far as reading goes.)");
        for (String op : new String[] {"BRANCH", "BRANCHIF", "CALL", "GET", "SET", "TEE"}) {
            for (int n : new int[] {4, 31, 32, 63}) {
                invalid(2, "1 2 2 0 INPUT INPUT " + op + " " + n + " TRAP END");
            }
        }
        for (int n : new int[] {0, 31, 32, 63}) {
            accepted("1 2 2 0 INPUT INPUT STORE " + n + " TRAP END");
            accepted("1 2 2 0 INPUT INPUT LOAD " + n + " TRAP END");
            accepted("1 2 2 0 INPUT INPUT CONST " + n + " TRAP END");
        }
    }

    // ---- READING

    private static void firstByteThatCannotStandThere() {
        sentence("READING goes from the left; it is MALFORMED at the first byte that can't stand there");
        malformed(0, 0, 3, 3, 2, 29);
        malformed(1, 1, 3, 3, 2, 29);
        malformed(2, 1, 2, 3, 2, 29);
        malformed(3, 1, 2, 2, 2, 29);
        malformed(4, 1, 2, 2, 1, 29, 29);
        malformed(4, 1, 2, 2, 1, 4, 29);
        malformed(5, 1, 2, 2, 1, 1, 2, 4);
        malformed(6, 1, 2, 2, 1, 0, 5, 29, 29);
    }

    private static void elseWithoutIf() {
        sentence("MALFORMED at ... an ELSE, unless what was opened last and isn't ended is an IF");
        malformed(4, 1, 0, 0, 0, 4, 5);
        malformed(5, 1, 0, 0, 0, 0, 4, 5, 5);
        malformed(6, 1, 0, 0, 0, 1, 0, 4, 5, 5);
        malformed(6, 1, 0, 0, 0, 2, 0, 4, 5, 5);
        accepted("1 0 0 0 INPUT IF 0 ELSE END END");
    }

    private static void elseOfWhatWasOpenedLast() {
        sentence("what was opened last and isn't ended");
        malformed(9, 1, 0, 0, 0, 27, 3, 0, 1, 0, 4, 5, 5, 5);
        malformed(9, 1, 0, 0, 0, 27, 3, 0, 2, 0, 4, 5, 5, 5);
        malformed(8, 1, 0, 0, 0, 27, 3, 0, 5, 4, 5, 5);
        malformed(10, 1, 0, 0, 0, 1, 0, 27, 3, 0, 5, 4, 5, 5);
        malformed(12, 2, 0, 0, 0, 27, 3, 0, 5, 5, 0, 0, 0, 4, 5);
        accepted("1 0 0 0 INPUT IF 0 BLOCK 0 END ELSE END END");
        accepted("1 0 0 0 INPUT IF 0 LOOP 0 END ELSE END END");
        accepted("1 0 0 0 INPUT IF 0 INPUT IF 0 END ELSE END END");
        accepted("1 0 0 0 INPUT IF 0 INPUT IF 0 ELSE END END END");
    }

    private static void elseTwice() {
        sentence("an IF that has no ELSE yet");
        malformed(8, 1, 0, 0, 0, 27, 3, 0, 4, 4, 5, 5);
        malformed(11, 1, 0, 0, 0, 27, 3, 0, 4, 1, 0, 5, 4, 5, 5);
        malformed(12, 1, 0, 0, 0, 27, 3, 0, 4, 27, 3, 0, 5, 4, 5, 5);
        accepted("1 0 0 0 INPUT IF 0 INPUT IF 0 ELSE END ELSE END END");
        accepted("1 0 0 0 INPUT IF 0 ELSE INPUT IF 0 ELSE END END END");
        accepted("1 0 0 0 INPUT IF 0 ELSE END INPUT IF 0 ELSE END END");
    }

    private static void endsEndWhatWasOpenedLast() {
        sentence("(BLOCK, LOOP, IF are opened, END ends what was opened last, else the function.)");
        RangeTeller t = loaded("1 0 0 0 BLOCK 0 LOOP 0 INPUT IF 0 END END END END");
        int[] behind = {7, 6, NONE, 5, NONE, NONE, NONE, NONE};
        for (int k = 0; k < behind.length; k++) {
            due("instruction(" + k + ", 4)", t.instruction(k, 4), behind[k]);
        }
        malformed(8, 1, 0, 0, 0, 1, 0, 5, 5, 5);
        malformed(8, 1, 0, 0, 0, 1, 0, 5, 0);
        malformed(7, 1, 0, 0, 0, 1, 0, 5);
    }

    private static void endTooEarly() {
        sentence("MALFORMED ... at the end, if it comes too early (place: how many bytes there were)");
        malformed(0);
        int[] whole = {34, 0, 33, 0, 33, 0, 33, 0, 27, 3, 33, 0, 17, 63, 1, 4, 1, 32, 0, 5, 12, 32, 0, 5, 5,
            0, 0, 32, 0, 6, 0, 5};
        answers(whole, 11, NONE);
        for (int n = 0; n < whole.length; n++) {
            malformed(n, Arrays.copyOf(whole, n));
        }
        about = "100 bytes without the END";
        RangeTeller t = new RangeTeller();
        feed(t, 1, 0, 0, 0);
        for (int n = 4; n < 100; n++) {
            feed(t, 0);
        }
        due("load()", t.load(), MALFORMED);
        due("place()", t.place(), 100);
    }
}
