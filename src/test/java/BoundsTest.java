import java.util.List;
import java.util.Random;

/** Runs made-up modules step by step: no run may leave what was foretold of the module. */
public final class BoundsTest extends Bench {
    private static final int MODULES = 3000;
    private static final int MOST_SEEN_STEPS = 12;

    public static void main(String[] args) {
        Random random = new Random(args.length > 0 ? Long.parseLong(args[0]) : 11);
        sentence("of every place in it is known beforehand in what bounds each number must be, what may go wrong there");
        int runs = 0;
        while (runs < MODULES) {
            List<Integer> bytes = Maker.module(random);
            about = bytes.toString();
            RangeTeller t = new RangeTeller();
            boolean fits = true;
            for (int b : bytes) {
                fits = t.feed(b) && fits;
            }
            if (fits && t.load() > 0) {
                whole(t, random);
                begun(t, random);
                runs++;
            }
        }
        finish();
    }

    private static void inputs(RangeTeller t, Random random) {
        for (int i = random.nextInt(6); i > 0; i--) {
            t.input(random.nextInt(64));
        }
    }

    private static void whole(RangeTeller t, Random random) {
        inputs(t, random);
        int stopped = t.run(random.nextInt(64), random.nextInt(64), 2000);
        int at = t.outcome(1);
        if (stopped == 0) {
            due("function(0, 5) behind a run that ended", t.function(0, 5), 1);
            holds("function(0, 4)", t.function(0, 4), t.outcome(0));
        } else {
            due("instruction(" + at + ", 2) where a run stopped", t.instruction(at, 2), 1);
        }
        if (stopped >= 1 && stopped <= 3) {
            int flag = 1 << stopped - 1;
            due("the flag where a run trapped", t.instruction(at, 3) & flag, flag);
        }
        memory(t);
    }

    /** The same run with more and more steps: each instruction that would be next is reached. */
    private static void begun(RangeTeller t, Random random) {
        int x = random.nextInt(64);
        int y = random.nextInt(64);
        int first = random.nextInt(60);
        for (int steps = first; steps < first + MOST_SEEN_STEPS && t.run(x, y, steps) == 5; steps++) {
            int at = t.outcome(1);
            due("instruction(" + at + ", 2) after " + steps + " steps", t.instruction(at, 2), 1);
        }
        memory(t);
    }

    private static void memory(RangeTeller t) {
        for (int k = 0; k < 16; k++) {
            holds("cell(" + k + ")", t.cell(k), t.memory(k));
        }
    }

    private static void holds(String call, int range, int value) {
        if (value == NONE) {
            due(call, range, NONE);
            return;
        }
        boolean within = range != NONE && value >= range % 64 && value <= range / 64 % 64;
        due(call + " has " + value, within, true);
    }
}
