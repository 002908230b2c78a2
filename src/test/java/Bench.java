import java.util.ArrayList;
import java.util.Arrays;
import java.util.List;

/** What the tests that are written out call by call have in common. */
abstract class Bench {
    static final int MALFORMED = -1;
    static final int INVALID = -2;
    static final int NONE = -3;
    static final int ALL = 63 * 64;
    static final int TAINT = 4096;
    static final int MIN = Integer.MIN_VALUE;
    static final int MAX = Integer.MAX_VALUE;
    static final List<String> NAMES = Arrays.asList(("TRAP BLOCK LOOP IF ELSE END BRANCH BRANCHIF RETURN"
        + " CALL DROP PICK GET SET TEE LOAD STORE CONST NOT SAME LESS PLUS MINUS TIMES OVER REST BOTH INPUT"
        + " OUTPUT").split(" "));
    static String about = "";
    private static String sentence = "";
    private static int asked = 0;
    private static int wrong = 0;

    static void finish() {
        System.out.println(wrong == 0 ? "all " + asked + " answers are as due" : wrong + " answers are not as due");
        if (wrong != 0) {
            System.exit(1);
        }
    }

    /** The sentence of the document that the calls behind this are about. */
    static void sentence(String text) {
        sentence = text;
        about = "a new object";
    }

    static void due(String call, long got, long want) {
        asked++;
        if (got != want) {
            wrong++;
            if (!sentence.isEmpty()) {
                System.out.println("\"" + sentence + "\"");
            }
            System.out.println("  " + about + ": " + call + " answered " + got + ", due is " + want);
        }
    }

    static void due(String call, boolean got, boolean want) {
        due(call, got ? 1 : 0, want ? 1 : 0);
    }

    static String times(int n, String text) {
        return (text + " ").repeat(n);
    }

    /** Words are names of ops or numbers, which are written in their shortest form. */
    static int[] bytes(String text) {
        List<Integer> bytes = new ArrayList<>();
        for (String word : text.trim().split(" +")) {
            if (NAMES.contains(word)) {
                bytes.add(NAMES.indexOf(word));
            } else {
                int n = Integer.parseInt(word);
                bytes.add(n < 32 ? n : n % 32 + 32);
                if (n >= 32) {
                    bytes.add(n / 32);
                }
            }
        }
        return bytes.stream().mapToInt(b -> b).toArray();
    }

    static void feed(RangeTeller t, int... bytes) {
        for (int b : bytes) {
            due("feed(" + b + ")", t.feed(b), true);
        }
    }

    /** Feeds a module and loads it, whatever was loaded before. */
    static void load(RangeTeller t, String text, int answer) {
        about = text;
        feed(t, bytes(text));
        due("load()", t.load(), answer);
    }

    static RangeTeller loaded(String text) {
        about = text;
        RangeTeller t = new RangeTeller();
        feed(t, bytes(text));
        int got = t.load();
        if (got < 0) {
            due("load() with place " + t.place(), got, 0);
        }
        return t;
    }

    static void answers(int[] bytes, int answer, int place) {
        about = Arrays.toString(bytes);
        RangeTeller t = new RangeTeller();
        feed(t, bytes);
        due("load()", t.load(), answer);
        due("place()", t.place(), place);
    }

    static void malformed(int place, int... bytes) {
        answers(bytes, MALFORMED, place);
    }

    static void invalid(int place, String text) {
        answers(bytes(text), INVALID, place);
        about = text;
    }

    static void valid(int count, String text) {
        answers(bytes(text), count, NONE);
        about = text;
    }

    /** As invalid, at the instruction whose name has a star before it. */
    static void refused(String text) {
        invalid(starred(text), text.replace("*", ""));
    }

    /** As valid; each name of an op is an instruction. */
    static void accepted(String text) {
        valid(instructions(text), text);
    }

    /** The number of the instruction whose name has a star before it. */
    static int starred(String text) {
        return instructions(text.substring(0, text.indexOf('*')));
    }

    private static int instructions(String text) {
        int count = 0;
        for (String word : text.trim().split(" +")) {
            count += NAMES.contains(word) ? 1 : 0;
        }
        return count;
    }

    static void runs(RangeTeller t, int x, int y, int steps, int want) {
        due("run(" + x + ", " + y + ", " + steps + ")", t.run(x, y, steps), want);
    }

    static void outcomes(RangeTeller t, int result, int at, int steps, int outputs) {
        due("outcome(0)", t.outcome(0), result);
        due("outcome(1)", t.outcome(1), at);
        due("outcome(2)", t.outcome(2), steps);
        due("outcome(3)", t.outcome(3), outputs);
    }

    /** The result of running a function of two parameters, two more locals and one result. */
    static void gives(String body, int x, int y, int result) {
        RangeTeller t = loaded("1 2 2 1 " + body + " END");
        runs(t, x, y, 2000, 0);
        due("outcome(0)", t.outcome(0), result);
    }

    static int range(int least, int greatest) {
        return least + 64 * greatest;
    }

    static void nothingRun(RangeTeller t) {
        for (int i = -1; i <= 20; i++) {
            due("outcome(" + i + ")", t.outcome(i), NONE);
            due("output(" + i + ")", t.output(i), NONE);
            due("memory(" + i + ")", t.memory(i), NONE);
        }
    }

    static void nothingLoaded(RangeTeller t) {
        runs(t, 0, 0, 10, NONE);
        nothingRun(t);
        for (int i = -1; i <= 6; i++) {
            due("instruction(0, " + i + ")", t.instruction(0, i), NONE);
            due("operand(0, " + i + ")", t.operand(0, i), NONE);
            due("local(0, " + i + ")", t.local(0, i), NONE);
            due("cell(" + i + ")", t.cell(i), NONE);
            due("function(0, " + i + ")", t.function(0, i), NONE);
        }
    }
}
