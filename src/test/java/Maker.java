import java.util.ArrayList;
import java.util.List;
import java.util.Random;

/** Makes up modules: most of them valid, some spoilt in one place. */
final class Maker {
    private static final int[] TAKES = {1, 3, 0, 1, 1, 1, 2, 0, 1, 2, 2, 2, 2, 2, 2, 2, 2, 0, 1};
    private static final int[] GIVES = {0, 1, 1, 0, 1, 1, 0, 1, 1, 1, 1, 1, 1, 1, 1, 1, 1, 1, 0};

    private static final class Frame {
        int op;
        int r;
        int base;
        boolean dead;
        boolean otherwise;
    }

    private final Random random;
    private final List<Integer> bytes = new ArrayList<>();
    private final List<Frame> frames = new ArrayList<>();
    private int[][] heads;
    private int height;

    private Maker(Random random) {
        this.random = random;
    }

    static List<Integer> module(Random random) {
        Maker m = new Maker(random);
        m.make();
        if (random.nextInt(6) == 0) {
            m.spoil();
        }
        return m.bytes;
    }

    private void make() {
        int count = 1 + random.nextInt(3);
        heads = new int[count][];
        for (int f = 0; f < count; f++) {
            heads[f] = new int[] {random.nextInt(3), random.nextInt(3), random.nextInt(2)};
        }
        number(count);
        int size = 20 + random.nextInt(76);
        for (int f = 0; f < count; f++) {
            body(heads[f], size * (f + 1) / count);
        }
    }

    private void spoil() {
        int at = random.nextInt(bytes.size());
        switch (random.nextInt(4)) {
            case 0:
                bytes.remove(at);
                break;
            case 1:
                bytes.add(at, random.nextInt(64));
                break;
            case 2:
                bytes.set(at, random.nextInt(random.nextBoolean() ? 64 : 29));
                break;
            default:
                while (bytes.size() > at) {
                    bytes.remove(at);
                }
                break;
        }
    }

    private void number(int v) {
        if (v > 31 || random.nextInt(12) == 0) {
            bytes.add(32 + v % 32);
            bytes.add(v / 32);
        } else {
            bytes.add(v);
        }
    }

    private void body(int[] head, int until) {
        for (int v : head) {
            number(v);
        }
        height = 0;
        frames.clear();
        open(0, head[2]);
        while (bytes.size() + 2 * frames.size() + height < until) {
            one(head);
        }
        while (!frames.isEmpty()) {
            end();
        }
    }

    private Frame latest() {
        return frames.get(frames.size() - 1);
    }

    private void open(int op, int r) {
        Frame f = new Frame();
        f.op = op;
        f.r = r;
        f.base = height;
        frames.add(f);
    }

    private void settle() {
        Frame f = latest();
        while (height > f.base + f.r) {
            bytes.add(10);
            height--;
        }
        while (height < f.base + f.r && !(f.dead && random.nextInt(3) > 0)) {
            bytes.add(17);
            number(constant());
            height++;
        }
    }

    private void end() {
        settle();
        Frame f = latest();
        if (f.op == 3 && f.r == 1 && !f.otherwise) {
            otherwise();
            settle();
        }
        bytes.add(5);
        frames.remove(frames.size() - 1);
        height = f.base + f.r;
    }

    private int constant() {
        switch (random.nextInt(4)) {
            case 0:
                return random.nextInt(64);
            case 1:
                return 63 - random.nextInt(3);
            default:
                return random.nextInt(6);
        }
    }

    private boolean has(int n) {
        return height - latest().base >= n || latest().dead;
    }

    private void take(int n) {
        height = Math.max(latest().base, height - n);
    }

    private void one(int[] head) {
        if (random.nextInt(400) == 0) {
            bytes.add(random.nextInt(29));
            return;
        }
        if (latest().dead && frames.size() > 1 && random.nextInt(3) > 0) {
            if (latest().op == 3 && !latest().otherwise) {
                otherwise();
            } else {
                end();
            }
            return;
        }
        int kind = random.nextInt(24);
        if (kind < 4) {
            frame();
        } else if (kind < 6) {
            jump(head);
        } else if (kind == 6) {
            call();
        } else if (kind < 12) {
            phrase(head);
        } else {
            plain(head);
        }
    }

    /** Phrases that a plain choice of ops would hardly ever make, but that give ranges something to do. */
    private void phrase(int[] head) {
        int locals = head[0] + head[1];
        if (height > 7 || locals == 0) {
            plain(head);
            return;
        }
        int i = random.nextInt(locals);
        switch (random.nextInt(7)) {
            case 0: // a range that is neither one value nor all
                emit(17, constant(), 17, constant());
                unknown(head);
                emit(11, -1);
                height++;
                break;
            case 1: // a counter
                emit(12, i, 17, 1 + random.nextInt(3), 21 + random.nextInt(3), -1, 13, i);
                break;
            case 2: // a conditional branch that can go both ways
                int n = random.nextInt(frames.size());
                Frame f = frames.get(frames.size() - 1 - n);
                if (has(f.op == 2 ? 0 : f.r)) {
                    unknown(head);
                    emit(7, n);
                }
                break;
            case 3: // an address that is mostly there, and a value from there
                unknown(head);
                emit(17, 1 + random.nextInt(15), 26, -1, 15, random.nextInt(4), 13, i);
                break;
            case 4: // an address that is mostly there, and a value to there
                unknown(head);
                emit(17, 1 + random.nextInt(15), 26, -1, 12, i, 16, random.nextInt(4));
                break;
            case 5: // from cell to cell, so that ranges grow the long way round
                emit(17, random.nextInt(6), 17, random.nextInt(6), 15, random.nextInt(2));
                emit(17, 1 + random.nextInt(3), 21 + random.nextInt(3), -1, 16, random.nextInt(2));
                break;
            default: // an operation on a local and a constant
                emit(12, i, 17, constant(), 19 + random.nextInt(8), -1, 13, i);
                break;
        }
    }

    /** Ops and their arguments by turns; -1 stands for none. */
    private void emit(int... parts) {
        for (int i = 0; i + 1 < parts.length; i += 2) {
            bytes.add(parts[i]);
            if (parts[i + 1] >= 0) {
                number(parts[i + 1]);
            }
        }
    }

    private void unknown(int[] head) {
        int from = random.nextInt(4);
        if (from < 3 && head[0] + head[1] > 0) {
            emit(12, random.nextInt(head[0] + head[1]));
        } else {
            emit(27, -1);
        }
    }

    private void frame() {
        int what = random.nextInt(6);
        if (what < 3) {
            int op = 1 + random.nextInt(3);
            if (op == 3 && !has(1)) {
                return;
            }
            bytes.add(op);
            int r = random.nextInt(2);
            number(r);
            if (op == 3) {
                take(1);
            }
            open(op, r);
        } else if (what == 3 && frames.size() > 1) {
            end();
        } else if (latest().op == 3 && !latest().otherwise) {
            otherwise();
        }
    }

    private void otherwise() {
        settle();
        bytes.add(4);
        latest().otherwise = true;
        latest().dead = false;
        height = latest().base;
    }

    private void jump(int[] head) {
        // Dead ends straight in the function's frame would leave most of it unreached.
        int what = frames.size() == 1 && random.nextInt(8) > 0 ? 5 : random.nextInt(12);
        if (what == 0 || what == 1 && !has(head[2])) {
            bytes.add(0);
        } else if (what == 1) {
            bytes.add(8);
        } else {
            int n = random.nextInt(frames.size());
            Frame f = frames.get(frames.size() - 1 - n);
            int needs = f.op == 2 ? 0 : f.r;
            int also = what < 9 ? 1 : 0;
            if (!has(needs + also)) {
                return;
            }
            bytes.add(6 + also);
            number(n);
            take(also);
            if (also == 1) {
                take(needs);
                height += needs;
                return;
            }
        }
        latest().dead = true;
        height = latest().base;
    }

    private void call() {
        int f = random.nextInt(4) > 0 ? heads.length - 1 : random.nextInt(heads.length);
        if (!has(heads[f][0])) {
            return;
        }
        bytes.add(9);
        number(f);
        take(heads[f][0]);
        height += heads[f][2];
    }

    private void plain(int[] head) {
        int op = 10 + random.nextInt(19);
        if ((op == 15 || op == 16) && random.nextInt(3) > 0) {
            op = 12;
        }
        int locals = head[0] + head[1];
        if (!has(TAKES[op - 10]) || op >= 12 && op <= 14 && locals == 0) {
            op = random.nextBoolean() && locals > 0 ? 12 : 17;
        }
        if (height - TAKES[op - 10] + GIVES[op - 10] > 10 && random.nextInt(20) > 0) {
            op = 10;
        }
        bytes.add(op);
        if (op >= 12 && op <= 14) {
            number(random.nextInt(locals));
        } else if (op == 15 || op == 16) {
            number(random.nextInt(3) == 0 ? random.nextInt(20) : random.nextInt(4));
        } else if (op == 17) {
            number(constant());
        }
        take(TAKES[op - 10]);
        height += GIVES[op - 10];
    }
}
