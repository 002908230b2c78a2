/** The boundary cases that the sentences on CHECKING name, each by itself; a star stands before what is refused. */
public final class CheckingEdgesTest extends Bench {
    private static final String[] DEADENING = {"TRAP", "RETURN", "BRANCH 0"};

    public static void main(String[] args) {
        baseOfTheFunction();
        baseOfFrames();
        baseOfIf();
        whatEachOpTakesAndGives();
        takingAtTheBase();
        deadTakesNothing();
        deadTakesWhatIsThere();
        deadenedHeightIsTheBase();
        deadensTheLatestFrameAlone();
        openedInDeadCodeIsLive();
        heightAtMostTen();
        heightAtMostTenBehindEnd();
        heightAtMostTenWhereDead();
        elseTakes();
        elseIsLiveAgain();
        endTakes();
        endOfFunction();
        ifNeedsElse();
        branchTakes();
        branchToLoopTakesNothing();
        branchTakesFromTheLatestFrame();
        branchIfTakesAndGives();
        returnTakes();
        callTakesAndGives();
        frameNumbers();
        localNumbers();
        functionNumbers();
        namesWhereDead();
        firstInvalid();
        malformedBeforeInvalid();
        finish();
    }

    // ---- frames and their bases

    private static void baseOfTheFunction() {
        sentence("it has a BASE, the height of the operand stack when it was begun (0 for the function)");
        refused("1 2 2 0 *DROP END");
        refused("1 2 2 0 INPUT DROP *DROP END");
        accepted("1 2 2 0 INPUT DROP END");
        // The second function begins with nothing of what the first one had.
        refused("2 0 0 1 INPUT END 0 0 0 *DROP END");
        refused("2 0 0 0 INPUT INPUT TRAP END 0 0 0 *DROP END");
        refused("2 0 0 0 TRAP END 0 0 0 *DROP END");
    }

    private static void baseOfFrames() {
        sentence("it has a BASE, the height of the operand stack when it was begun");
        for (String frame : new String[] {"BLOCK 0", "LOOP 0"}) {
            refused("1 0 0 0 " + frame + " *DROP END END");
            refused("1 0 0 0 INPUT INPUT " + frame + " *DROP END DROP DROP END");
            refused("1 0 0 0 INPUT " + frame + " INPUT BLOCK 0 *DROP END DROP END DROP END");
            accepted("1 0 0 0 INPUT INPUT " + frame + " INPUT DROP END PLUS DROP END");
            accepted("1 0 0 0 INPUT " + frame + " INPUT BLOCK 0 END DROP END DROP END");
        }
    }

    private static void baseOfIf() {
        sentence("(behind the condition for an IF)");
        refused("1 0 0 0 *IF 0 END END");
        refused("1 0 0 0 INPUT IF 0 *DROP END END");
        refused("1 0 0 0 INPUT INPUT IF 0 *DROP END DROP END");
        accepted("1 0 0 0 INPUT INPUT IF 0 END DROP END");
        refused("1 0 0 0 INPUT IF 0 END *DROP END");
        refused("1 0 0 0 INPUT IF 0 ELSE END *DROP END");
    }

    // ---- taking and giving

    private static void takesAndGives(String op, int takes, int gives) {
        String there = "1 2 2 0 " + times(takes, "INPUT");
        if (takes > 0) {
            refused("1 2 2 0 " + times(takes - 1, "INPUT") + "*" + op + " TRAP END");
        }
        accepted(there + op + " " + times(gives, "DROP") + "END");
        refused(there + op + " " + times(gives, "DROP") + "*DROP END");
        if (gives > 0) {
            refused(there + op + " " + times(gives - 1, "DROP") + "*END");
        }
        // What is below stays.
        accepted(there + "INPUT INPUT " + op + " DROP DROP " + times(gives, "DROP") + "END");
        refused(there + "INPUT INPUT " + op + " DROP DROP " + times(gives, "DROP") + "*DROP END");
    }

    private static void whatEachOpTakesAndGives() {
        sentence("DROP takes 1. PICK takes 3, gives 1. GET gives 1, SET takes 1, TEE takes and gives 1. LOAD takes 1, "
            + "gives 1; STORE takes 2. CONST, INPUT give 1; OUTPUT takes 1. NOT takes and gives 1; 19 to 26 take 2, "
            + "give 1.");
        takesAndGives("DROP", 1, 0);
        takesAndGives("PICK", 3, 1);
        takesAndGives("GET 0", 0, 1);
        takesAndGives("SET 0", 1, 0);
        takesAndGives("TEE 0", 1, 1);
        takesAndGives("LOAD 0", 1, 1);
        takesAndGives("STORE 0", 2, 0);
        takesAndGives("CONST 0", 0, 1);
        takesAndGives("INPUT", 0, 1);
        takesAndGives("OUTPUT", 1, 0);
        takesAndGives("NOT", 1, 1);
        for (int op = 19; op <= 26; op++) {
            takesAndGives(NAMES.get(op), 2, 1);
        }
    }

    private static void takingAtTheBase() {
        sentence("To TAKE an operand: the height must be above the base of the latest frame");
        String below = "1 1 0 0 INPUT INPUT INPUT BLOCK 0 ";
        for (String op : new String[] {"DROP", "SET 0", "TEE 0", "LOAD 0", "OUTPUT", "NOT", "IF 0 END", "BRANCHIF 0"}) {
            refused(below + "*" + op + " TRAP END TRAP END");
            refused(below + "BLOCK 0 *" + op + " TRAP END TRAP END TRAP END");
            accepted(below + "INPUT " + op + " TRAP END TRAP END");
        }
        for (int op = 19; op <= 26; op++) {
            refused(below + "INPUT *" + NAMES.get(op) + " TRAP END TRAP END");
            accepted(below + "INPUT INPUT " + NAMES.get(op) + " TRAP END TRAP END");
        }
        refused(below + "INPUT *STORE 0 TRAP END TRAP END");
        refused(below + "INPUT INPUT *PICK TRAP END TRAP END");
    }

    // ---- what is dead

    private static void deadTakesNothing() {
        sentence("(if that isn't live and the height is the base, nothing is taken)");
        for (String dead : DEADENING) {
            accepted("1 0 0 0 " + dead + " DROP DROP DROP END");
            accepted("1 0 0 0 " + dead + " STORE 0 END");
            accepted("1 0 0 0 " + dead + " PICK DROP END");
            accepted("1 0 0 0 " + dead + " PLUS OUTPUT END");
            accepted("1 0 0 0 INPUT INPUT BLOCK 0 " + dead + " DROP DROP END DROP DROP END");
            // The operands below the base of the dead frame were not taken.
            refused("1 0 0 0 INPUT INPUT BLOCK 0 " + dead + " DROP DROP END DROP *END");
            refused("1 0 0 0 INPUT INPUT BLOCK 0 " + dead + " DROP DROP END DROP DROP *DROP END");
        }
    }

    private static void deadTakesWhatIsThere() {
        sentence("(if that isn't live and the height is the base, nothing is taken): above the base it is taken");
        for (String dead : DEADENING) {
            refused("1 0 0 0 " + dead + " INPUT *END");
            refused("1 0 0 0 " + dead + " INPUT INPUT DROP *END");
            accepted("1 0 0 0 " + dead + " INPUT DROP END");
            accepted("1 0 0 0 " + dead + " INPUT DROP DROP END");
            refused("1 0 0 0 " + dead + " INPUT INPUT PLUS *END");
            refused("1 0 0 0 " + dead + " INPUT PLUS *END");
            refused("1 0 0 0 " + dead + " PLUS *END");
        }
    }

    private static void deadenedHeightIsTheBase() {
        sentence("something DEADENS it (the height is the base then)");
        for (String dead : DEADENING) {
            accepted("1 0 0 0 INPUT INPUT INPUT " + dead + " END");
            accepted("1 0 0 0 INPUT BLOCK 0 INPUT INPUT " + dead + " END DROP END");
            refused("1 0 0 0 INPUT BLOCK 0 INPUT " + dead + " END DROP *DROP END");
            refused("1 0 0 0 INPUT " + dead + " NOT *END");
        }
    }

    private static void deadensTheLatestFrameAlone() {
        sentence("is LIVE until something DEADENS it");
        for (String dead : new String[] {"TRAP", "RETURN", "BRANCH 0", "BRANCH 1"}) {
            refused("1 0 0 0 BLOCK 0 " + dead + " END *DROP END");
            refused("1 0 0 0 LOOP 0 " + dead + " END *DROP END");
            refused("1 0 0 0 INPUT IF 0 " + dead + " END *DROP END");
            refused("1 0 0 0 INPUT IF 0 ELSE " + dead + " END *DROP END");
        }
        // BRANCH IF and CALL deaden nothing, nor does an END make its surroundings live.
        refused("1 0 0 0 INPUT BRANCHIF 0 *DROP END");
        refused("2 0 0 0 CALL 1 *DROP END 0 0 0 TRAP END");
        accepted("1 0 0 0 TRAP BLOCK 0 END DROP END");
    }

    private static void openedInDeadCodeIsLive() {
        sentence("A FRAME is the function, or what was opened and isn't ended; it ... is LIVE until something DEADENS "
            + "it");
        for (String dead : DEADENING) {
            refused("1 0 0 0 " + dead + " BLOCK 0 *DROP END END");
            refused("1 0 0 0 " + dead + " LOOP 0 *DROP END END");
            refused("1 0 0 0 " + dead + " IF 0 *DROP END END");
            refused("1 0 0 0 " + dead + " IF 0 ELSE *DROP END END");
            refused("1 0 0 0 " + dead + " BLOCK 1 *END DROP END");
            accepted("1 0 0 0 " + dead + " BLOCK 0 TRAP DROP END END");
            accepted("1 0 0 0 " + dead + " BLOCK 1 INPUT END DROP END");
            accepted("1 0 0 0 " + dead + " IF 1 INPUT ELSE INPUT END DROP END");
        }
    }

    // ---- ten operands

    private static void heightAtMostTen() {
        sentence("To GIVE one: the height grows by 1; it may not become more than 10.");
        String nine = "2 1 0 0 " + times(9, "CONST 0");
        String tail = "TRAP END 0 0 1 INPUT END";
        for (String op : new String[] {"GET 0", "CONST 1", "INPUT", "CALL 1"}) {
            accepted(nine + op + " " + tail);
            refused(nine + "INPUT *" + op + " " + tail);
            accepted(nine + "BLOCK 0 " + op + " TRAP END " + tail);
            refused(nine + "INPUT BLOCK 0 *" + op + " TRAP END " + tail);
        }
        // What takes first may give again.
        for (String op : new String[] {"NOT", "TEE 0", "LOAD 0", "PLUS", "PICK", "BRANCHIF 0"}) {
            accepted(nine + "INPUT " + op + " " + tail);
        }
        // Each function has its own height.
        accepted("2 0 0 0 " + times(10, "INPUT") + "CALL 1 TRAP END 0 0 0 " + times(10, "INPUT") + "TRAP END");
        // A frame that needs nothing may be opened and ended at the full height.
        accepted("1 0 0 0 " + times(10, "INPUT") + "BLOCK 0 END LOOP 0 END TRAP END");
    }

    private static void heightAtMostTenBehindEnd() {
        sentence("END: ... the frame is gone, r are given (it may not become more than 10)");
        for (String frame : new String[] {"BLOCK 1", "LOOP 1"}) {
            accepted("1 0 0 0 " + times(9, "INPUT") + frame + " INPUT END TRAP END");
            accepted("1 0 0 0 " + times(9, "INPUT") + frame + " TRAP END TRAP END");
            refused("1 0 0 0 " + times(10, "INPUT") + frame + " TRAP *END TRAP END");
        }
        accepted("1 0 0 0 " + times(10, "INPUT") + "IF 1 TRAP ELSE TRAP END TRAP END");
        // The base of the IF that is dead when it is opened is at the full height.
        refused("1 0 0 0 " + times(10, "INPUT") + "BLOCK 0 TRAP IF 1 TRAP ELSE TRAP *END TRAP END TRAP END");
    }

    private static void heightAtMostTenWhereDead() {
        sentence("To GIVE one ... it may not become more than 10 (also if nothing was taken)");
        for (String op : new String[] {"NOT", "TEE 0", "LOAD 0", "SAME", "BOTH", "PICK", "CALL 0"}) {
            accepted("1 1 0 1 " + times(9, "INPUT") + "BLOCK 0 TRAP " + op + " DROP END TRAP END");
            refused("1 1 0 1 " + times(10, "INPUT") + "BLOCK 0 TRAP *" + op + " DROP END TRAP END");
        }
        accepted("1 0 0 1 " + times(9, "INPUT") + "BLOCK 0 TRAP BRANCHIF 1 DROP END TRAP END");
        refused("1 0 0 1 " + times(10, "INPUT") + "BLOCK 0 TRAP *BRANCHIF 1 DROP END TRAP END");
        // BRANCH and RETURN give nothing, so they may stand there.
        accepted("1 0 0 1 " + times(10, "INPUT") + "BLOCK 0 TRAP BRANCH 1 END TRAP END");
        accepted("1 0 0 1 " + times(10, "INPUT") + "BLOCK 0 TRAP RETURN END TRAP END");
        accepted("1 0 0 0 TRAP " + times(10, "INPUT") + "TRAP END");
        refused("1 0 0 0 TRAP " + times(10, "INPUT") + "*INPUT TRAP END");
    }

    // ---- ELSE and END

    private static void elseTakes() {
        sentence("ELSE: takes r; the height must be the base then");
        refused("1 0 0 0 INPUT IF 1 *ELSE INPUT END DROP END");
        accepted("1 0 0 0 INPUT IF 1 INPUT ELSE INPUT END DROP END");
        refused("1 0 0 0 INPUT IF 1 INPUT INPUT *ELSE INPUT END DROP END");
        accepted("1 0 0 0 INPUT IF 0 ELSE END END");
        refused("1 0 0 0 INPUT IF 0 INPUT *ELSE END END");
        refused("1 0 0 0 INPUT INPUT IF 1 *ELSE INPUT END DROP DROP END");
        accepted("1 0 0 0 INPUT IF 1 TRAP ELSE INPUT END DROP END");
        refused("1 0 0 0 INPUT IF 0 TRAP INPUT *ELSE END END");
    }

    private static void elseIsLiveAgain() {
        sentence("ELSE: ... the height is the base and the frame is live again");
        for (String dead : new String[] {"TRAP", "RETURN", "BRANCH 0", "BRANCH 1"}) {
            refused("1 0 0 0 INPUT IF 0 " + dead + " ELSE *DROP END END");
            refused("1 0 0 0 INPUT INPUT IF 0 " + dead + " ELSE *DROP END END");
        }
        refused("1 0 0 0 INPUT IF 1 TRAP ELSE *END DROP END");
        refused("1 0 0 0 INPUT IF 1 INPUT ELSE *END DROP END");
        refused("1 0 0 0 INPUT IF 1 INPUT ELSE INPUT INPUT *END DROP END");
    }

    private static void endTakes() {
        sentence("END: takes the r of the frame; the height must be the base then; the frame is gone, r are given");
        for (String frame : new String[] {"BLOCK", "LOOP"}) {
            accepted("1 0 0 0 " + frame + " 0 END END");
            refused("1 0 0 0 " + frame + " 0 INPUT *END END");
            refused("1 0 0 0 " + frame + " 1 *END DROP END");
            accepted("1 0 0 0 " + frame + " 1 INPUT END DROP END");
            refused("1 0 0 0 " + frame + " 1 INPUT INPUT *END DROP END");
            refused("1 0 0 0 INPUT " + frame + " 1 *END DROP DROP END");
            refused("1 0 0 0 " + frame + " 1 INPUT END *END");
            refused("1 0 0 0 " + frame + " 0 END *DROP END");
            refused("1 0 0 0 " + frame + " 0 TRAP INPUT *END END");
            accepted("1 0 0 0 " + frame + " 1 TRAP INPUT END DROP END");
            refused("1 0 0 0 " + frame + " 1 TRAP END *END");
        }
        refused("1 0 0 0 INPUT IF 0 INPUT *END END");
        refused("1 0 0 0 INPUT IF 0 ELSE INPUT *END END");
    }

    private static void endOfFunction() {
        sentence("END: takes ... (the results, for the function); the height must be the base then");
        accepted("1 0 0 0 END");
        refused("1 0 0 0 INPUT *END");
        refused("1 0 0 1 *END");
        accepted("1 0 0 1 INPUT END");
        refused("1 0 0 1 INPUT INPUT *END");
        accepted("1 0 0 1 TRAP END");
        accepted("1 0 0 1 TRAP INPUT END");
        refused("1 0 0 1 TRAP INPUT INPUT *END");
        refused("2 0 0 0 END 0 0 1 *END");
        refused("2 0 0 1 INPUT END 0 0 0 INPUT *END");
    }

    private static void ifNeedsElse() {
        sentence("an IF with r = 1 must have had an ELSE");
        refused("1 0 0 0 INPUT IF 1 INPUT *END DROP END");
        refused("1 0 0 0 INPUT IF 1 TRAP *END DROP END");
        refused("1 0 0 0 TRAP IF 1 INPUT *END DROP END");
        accepted("1 0 0 0 INPUT IF 1 INPUT ELSE INPUT END DROP END");
        accepted("1 0 0 0 INPUT IF 0 END END");
        // The ELSE of another IF is none of its own.
        refused("1 0 0 0 INPUT IF 1 INPUT IF 0 ELSE END INPUT *END DROP END");
        accepted("1 0 0 0 BLOCK 1 INPUT END LOOP 1 INPUT END DROP DROP END");
    }

    // ---- BRANCH, BRANCH IF, RETURN, CALL

    private static void branchTakes() {
        sentence("BRANCH n: takes what frame n needs: r or the results");
        refused("1 0 0 0 BLOCK 1 *BRANCH 0 END DROP END");
        accepted("1 0 0 0 BLOCK 1 INPUT BRANCH 0 END DROP END");
        accepted("1 0 0 0 BLOCK 0 BRANCH 0 END END");
        refused("1 0 0 0 INPUT IF 1 *BRANCH 0 ELSE INPUT END DROP END");
        accepted("1 0 0 0 INPUT IF 1 INPUT BRANCH 0 ELSE INPUT END DROP END");
        refused("1 0 0 1 *BRANCH 0 END");
        accepted("1 0 0 1 INPUT BRANCH 0 END");
        accepted("1 0 0 0 BRANCH 0 END");
        // More than it needs may be there.
        accepted("1 0 0 1 INPUT INPUT INPUT BRANCH 0 END");
        accepted("1 0 0 0 BLOCK 1 INPUT INPUT BRANCH 0 END DROP END");
        // What the frame n needs counts, not what the latest one needs.
        refused("1 0 0 0 BLOCK 1 BLOCK 0 *BRANCH 1 END INPUT END DROP END");
        accepted("1 0 0 0 BLOCK 0 BLOCK 1 BRANCH 1 END DROP END END");
        refused("1 0 0 1 BLOCK 0 *BRANCH 1 END INPUT END");
        accepted("1 0 0 1 BLOCK 0 INPUT BRANCH 1 END INPUT END");
    }

    private static void branchToLoopTakesNothing() {
        sentence("BRANCH n: takes ... 0 for a LOOP");
        accepted("1 0 0 0 LOOP 1 BRANCH 0 END DROP END");
        accepted("1 0 0 0 LOOP 1 INPUT BRANCHIF 0 INPUT END DROP END");
        refused("1 0 0 0 LOOP 1 INPUT BRANCHIF 0 *DROP INPUT END DROP END");
        accepted("1 0 0 1 LOOP 1 BLOCK 1 BRANCH 1 END END END");
    }

    private static void branchTakesFromTheLatestFrame() {
        sentence("BRANCH n: takes what frame n needs (above the base of the latest frame)");
        refused("1 0 0 0 BLOCK 1 INPUT BLOCK 0 *BRANCH 1 END END DROP END");
        refused("1 0 0 1 INPUT BLOCK 0 *BRANCH 1 END END");
        refused("1 0 0 1 INPUT BLOCK 0 *RETURN END END");
        refused("1 0 0 0 BLOCK 1 INPUT BLOCK 0 INPUT *BRANCHIF 1 END END DROP END");
    }

    private static void branchIfTakesAndGives() {
        sentence("BRANCH IF n: takes 1, takes and gives again what frame n needs");
        refused("1 0 0 0 *BRANCHIF 0 END");
        accepted("1 0 0 0 INPUT BRANCHIF 0 END");
        refused("1 0 0 0 INPUT BRANCHIF 0 *DROP END");
        refused("1 0 0 1 INPUT *BRANCHIF 0 END");
        accepted("1 0 0 1 INPUT INPUT BRANCHIF 0 END");
        refused("1 0 0 1 INPUT INPUT BRANCHIF 0 DROP *END");
        refused("1 0 0 0 BLOCK 1 INPUT *BRANCHIF 0 END DROP END");
        accepted("1 0 0 0 BLOCK 1 INPUT INPUT BRANCHIF 0 END DROP END");
        // Where it is dead it gives what it had not to take.
        accepted("1 0 0 1 TRAP BRANCHIF 0 END");
        refused("1 0 0 1 TRAP BRANCHIF 0 INPUT *END");
        refused("1 0 0 1 BLOCK 0 TRAP BRANCHIF 1 *END INPUT END");
        accepted("1 0 0 0 TRAP BRANCHIF 0 END");
    }

    private static void returnTakes() {
        sentence("RETURN: takes the results, deadens");
        refused("1 0 0 1 *RETURN END");
        accepted("1 0 0 1 INPUT RETURN END");
        accepted("1 0 0 1 INPUT INPUT RETURN END");
        accepted("1 0 0 0 RETURN END");
        accepted("1 0 0 0 INPUT RETURN END");
        accepted("1 0 0 1 BLOCK 0 INPUT RETURN END INPUT END");
        refused("1 0 0 1 BLOCK 0 *RETURN END INPUT END");
        accepted("1 0 0 1 TRAP RETURN END");
    }

    private static void callTakesAndGives() {
        sentence("CALL f: takes f's parameters, gives its results");
        accepted("2 0 0 0 CALL 1 END 0 0 0 END");
        refused("2 0 0 0 CALL 1 *DROP END 0 2 0 END");
        for (int parameters = 1; parameters <= 2; parameters++) {
            String callee = " END " + parameters + " 0 0 END";
            refused("2 0 0 0 " + times(parameters - 1, "INPUT") + "*CALL 1" + callee);
            accepted("2 0 0 0 " + times(parameters, "INPUT") + "CALL 1" + callee);
            refused("2 0 0 0 " + times(parameters + 1, "INPUT") + "CALL 1 *" + callee.trim());
        }
        accepted("2 0 0 0 CALL 1 DROP END 0 0 1 INPUT END");
        refused("2 0 0 0 CALL 1 *END 0 0 1 INPUT END");
        refused("2 0 0 0 CALL 1 DROP *DROP END 0 0 1 INPUT END");
        accepted("2 0 0 0 INPUT INPUT CALL 1 DROP END 2 0 1 INPUT END");
        // The function that is called counts, not the one that calls.
        accepted("2 2 0 1 CALL 1 INPUT END 0 0 0 END");
        accepted("2 0 0 0 END 0 0 1 CALL 0 INPUT END");
        refused("1 1 0 0 *CALL 0 END");
        accepted("1 1 0 0 INPUT CALL 0 END");
    }

    // ---- what there must be

    private static void frameNumbers() {
        sentence("INVALID ... where there is no frame n (0 the latest, and so on outwards, the function the last one)");
        String opened = "";
        String ended = "";
        for (int depth = 0; depth <= 3; depth++) {
            for (int n = 0; n <= depth; n++) {
                accepted("1 0 0 0 " + opened + "BRANCH " + n + " " + ended + "END");
                accepted("1 0 0 0 " + opened + "INPUT BRANCHIF " + n + " " + ended + "END");
            }
            for (int n : new int[] {depth + 1, depth + 2, 31, 32, 63}) {
                refused("1 0 0 0 " + opened + "*BRANCH " + n + " " + ended + "END");
                refused("1 0 0 0 " + opened + "INPUT *BRANCHIF " + n + " " + ended + "END");
            }
            // Frames that are ended are no frames.
            refused("1 0 0 0 " + opened + "BLOCK 0 END *BRANCH " + (depth + 1) + " " + ended + "END");
            opened += "BLOCK 0 ";
            ended += "END ";
        }
        // Frames of another function neither.
        refused("2 0 0 0 BLOCK 0 END END 0 0 0 *BRANCH 1 END");
    }

    private static void localNumbers() {
        sentence("INVALID ... where there is no ... local i");
        for (int parameters = 0; parameters <= 2; parameters++) {
            for (int more = 0; more <= 2; more++) {
                String head = "1 " + parameters + " " + more + " 0 ";
                int count = parameters + more;
                for (int i = 0; i < count; i++) {
                    accepted(head + "GET " + i + " DROP END");
                    accepted(head + "INPUT SET " + i + " END");
                    accepted(head + "INPUT TEE " + i + " DROP END");
                }
                for (int i : new int[] {count, count + 1, 31, 32, 63}) {
                    refused(head + "*GET " + i + " DROP END");
                    refused(head + "INPUT *SET " + i + " END");
                    refused(head + "INPUT *TEE " + i + " DROP END");
                }
            }
        }
        // The locals of another function are none.
        refused("2 2 2 0 GET 3 DROP END 0 0 0 *GET 0 DROP END");
        refused("2 0 0 0 *GET 0 DROP END 2 2 0 GET 3 DROP END");
    }

    private static void functionNumbers() {
        sentence("INVALID ... where there is no ... function f");
        String more = "";
        for (int functions = 1; functions <= 3; functions++) {
            for (int f = 0; f < functions; f++) {
                accepted(functions + " 0 0 0 CALL " + f + " END" + more);
            }
            for (int f : new int[] {functions, functions + 1, 31, 32, 63}) {
                refused(functions + " 0 0 0 *CALL " + f + " END" + more);
            }
            more += " 0 0 0 END";
        }
    }

    private static void namesWhereDead() {
        sentence("also where there is no frame n, local i, function f (dead or not)");
        refused("1 0 0 0 TRAP *GET 0 DROP END");
        refused("1 0 0 0 TRAP *SET 0 END");
        refused("1 0 0 0 TRAP *TEE 0 DROP END");
        refused("1 0 0 0 TRAP *CALL 1 END");
        refused("1 0 0 0 TRAP *BRANCH 1 END");
        refused("1 0 0 0 TRAP *BRANCHIF 1 END");
    }

    private static void firstInvalid() {
        sentence("INVALID at the first instruction where something must be and isn't");
        refused("1 0 0 0 INPUT *GET 0 DROP DROP DROP CALL 3 END");
        refused("1 0 0 0 *DROP DROP END");
        refused("1 0 0 1 *NOT END");
        refused("2 0 0 0 *DROP END 0 0 0 DROP END");
        refused("2 0 0 0 END 0 0 0 *DROP END");
        refused("3 0 0 0 END 0 0 0 END 0 0 1 INPUT INPUT *END");
    }

    private static void malformedBeforeInvalid() {
        sentence("a module is read from its bytes and checked");
        malformed(5, 1, 0, 0, 0, 10, 29, 5);
        malformed(7, 1, 0, 0, 0, 10, 10, 5, 5);
        malformed(6, 1, 0, 0, 0, 10, 10);
    }
}
