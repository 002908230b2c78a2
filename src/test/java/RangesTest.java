import java.util.Random;

/** Compares the range that each operation gives with all results that there are, found by trying. */
public final class RangesTest {
    private static final int PAIRS = 20000;
    private static int wrong = 0;

    public static void main(String[] args) {
        Random random = new Random(11);
        for (int op = 19; op <= 26; op++) {
            for (int n = 0; n < PAIRS; n++) {
                compare(op, some(random), some(random));
            }
            edges(op);
        }
        System.out.println(wrong == 0 ? "all ranges are as due" : wrong + " ranges are not as due");
        if (wrong != 0) {
            System.exit(1);
        }
    }

    private static Oracle.Bounds some(Random random) {
        int a = random.nextInt(64);
        int other = random.nextBoolean() ? random.nextInt(64) : Math.min(63, a + random.nextInt(5));
        int b = random.nextInt(3) == 0 ? a : other;
        return new Oracle.Bounds(Math.min(a, b), Math.max(a, b), false);
    }

    private static void edges(int op) {
        int[][] ranges = {{0, 0}, {0, 1}, {1, 1}, {0, 63}, {1, 63}, {63, 63}, {62, 63}, {31, 32}, {32, 32}, {0, 31}};
        for (int[] p : ranges) {
            for (int[] q : ranges) {
                compare(op, new Oracle.Bounds(p[0], p[1], false), new Oracle.Bounds(q[0], q[1], false));
            }
        }
    }

    private static void number(RangeTeller t, int v) {
        t.feed(32 + v % 32);
        t.feed(v / 32);
    }

    /** CONST low, CONST high, GET 0 and PICK leave the range low .. high. */
    private static void leave(RangeTeller t, Oracle.Bounds b) {
        t.feed(17);
        number(t, b.low);
        t.feed(17);
        number(t, b.high);
        t.feed(12);
        t.feed(0);
        t.feed(11);
    }

    private static void compare(int op, Oracle.Bounds p, Oracle.Bounds q) {
        RangeTeller t = new RangeTeller();
        for (int b : new int[] {1, 1, 0, 0}) {
            t.feed(b);
        }
        leave(t, p);
        leave(t, q);
        for (int b : new int[] {op, 10, 5}) {
            t.feed(b);
        }
        t.load();
        Oracle.Bounds tried = Oracle.tried(op, p, q);
        int want = tried == null ? -3 : tried.code();
        int got = t.operand(9, 0);
        if (got != want) {
            wrong++;
            System.out.println("op " + op + " of " + p.low + " .. " + p.high + " and " + q.low + " .. " + q.high
                + " answered " + got + ", due is " + want);
        }
    }
}
