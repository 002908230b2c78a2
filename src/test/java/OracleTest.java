import java.util.ArrayList;
import java.util.List;
import java.util.Random;

/** Compares all answers for made-up modules with those of the oracle. */
public final class OracleTest {
    private static final int MODULES = 20000;
    private static final int MOST_CALLS = 512;
    private static int wrong = 0;
    private static List<Integer> bytes = new ArrayList<>();
    private static List<Integer> earlier;
    private static RangeTeller teller;
    private static int calls;

    private static void due(String call, int got, int want) {
        if (got != want) {
            wrong++;
            if (wrong <= 20) {
                System.out.println(bytes + ": " + call + " answered " + got + ", due is " + want);
            }
        }
    }

    /** A new object that has had another module before, whose traces must not be seen. */
    private static int fresh() {
        teller = new RangeTeller();
        calls = 3 + earlier.size() + bytes.size();
        for (int b : earlier) {
            teller.feed(b);
        }
        teller.load();
        teller.run(1, 1, 100);
        for (int b : bytes) {
            teller.feed(b);
        }
        return teller.load();
    }

    /** No object is asked more than the document allows. */
    private static RangeTeller ask() {
        if (calls >= MOST_CALLS) {
            fresh();
        }
        calls++;
        return teller;
    }

    public static void main(String[] args) {
        int modules = args.length > 0 ? Integer.parseInt(args[0]) : MODULES;
        long seed = args.length > 1 ? Long.parseLong(args[1]) : 7;
        Random random = new Random(seed);
        int malformed = 0;
        int invalid = 0;
        for (int m = 0; m < modules; m++) {
            earlier = bytes;
            bytes = Maker.module(random);
            while (bytes.size() > 100) {
                bytes.remove(100);
            }
            Oracle oracle = new Oracle(bytes);
            due("load()", fresh(), oracle.answer);
            due("place()", ask().place(), oracle.place);
            malformed += oracle.answer == -1 ? 1 : 0;
            invalid += oracle.answer == -2 ? 1 : 0;
            if (oracle.answer > 0) {
                runs(oracle, random);
                ranges(oracle);
            } else {
                due("run", teller.run(0, 0, 9), -3);
                due("cell", teller.cell(0), -3);
                due("function", teller.function(0, 0), -3);
                due("instruction", teller.instruction(0, 0), -3);
            }
        }
        System.out.println(modules + " modules, " + malformed + " malformed, " + invalid + " invalid: "
            + (wrong == 0 ? "all answers are as due" : wrong + " answers are not as due"));
        if (wrong != 0) {
            System.exit(1);
        }
    }

    private static void runs(Oracle oracle, Random random) {
        for (int r = 0; r < 4; r++) {
            if (calls + 70 > MOST_CALLS) {
                fresh();
            }
            calls += 70;
            List<Integer> inputs = new ArrayList<>();
            for (int i = random.nextInt(13); i > 0; i--) {
                inputs.add(random.nextInt(64));
                due("input", teller.input(inputs.get(inputs.size() - 1)), inputs.size());
            }
            int x = random.nextInt(200) - 70;
            int y = random.nextInt(200) - 70;
            int steps = r == 0 ? 5000 : r == 1 ? random.nextInt(40) - 2 : random.nextInt(300);
            oracle.run(x, y, steps, inputs);
            String run = "run(" + x + ", " + y + ", " + steps + ") with " + inputs;
            due(run, teller.run(x, y, steps), oracle.stopped);
            due(run + " outcome(0)", teller.outcome(0), oracle.result);
            due(run + " outcome(1)", teller.outcome(1), oracle.stoppedAt);
            due(run + " outcome(2)", teller.outcome(2), oracle.steps);
            due(run + " outcome(3)", teller.outcome(3), oracle.outputs.size());
            for (int k = -1; k < 22; k++) {
                boolean there = k >= 0 && k < 20 && k < oracle.outputs.size();
                due(run + " output(" + k + ")", teller.output(k), there ? oracle.outputs.get(k) : -3);
            }
            for (int k = -1; k < 17; k++) {
                due(run + " memory(" + k + ")", teller.memory(k), k < 0 || k > 15 ? -3 : oracle.memory[k]);
            }
        }
    }

    private static void ranges(Oracle oracle) {
        for (int k = -1; k <= oracle.answer; k++) {
            for (int what = -1; what <= 6; what++) {
                due("instruction(" + k + ", " + what + ")", ask().instruction(k, what), oracle.instruction(k, what));
            }
            for (int i = -1; i <= 10; i++) {
                due("operand(" + k + ", " + i + ")", ask().operand(k, i), oracle.operand(k, i));
            }
            for (int i = -1; i <= 4; i++) {
                due("local(" + k + ", " + i + ")", ask().local(k, i), oracle.local(k, i));
            }
        }
        for (int k = -1; k <= 16; k++) {
            due("cell(" + k + ")", ask().cell(k), oracle.cell(k));
        }
        for (int f = -1; f <= 3; f++) {
            for (int what = -1; what <= 6; what++) {
                due("function(" + f + ", " + what + ")", ask().function(f, what), oracle.function(f, what));
            }
        }
    }
}
