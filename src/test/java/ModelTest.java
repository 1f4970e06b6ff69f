import java.util.Random;

/** Long runs of calls (the same each time), each answer held against that of PlainDesk. */
public final class ModelTest {
    private static final int RUNS = 6000;
    private static final int CALLS = 512;
    private static final long STATE = Long.MIN_VALUE + 1;
    private static final long ARGUMENT = Long.MIN_VALUE + 2;
    private static final int[] ODD = {Integer.MIN_VALUE, -70, -2, -1, 8, 9, 10, 64, 65, 256, Integer.MAX_VALUE};
    private static final int[] HOWS = {1, 2, 3, 6, 7, 9, 10, 11, 15, 25, 27, 34, 35, 42, 43, 47, 63, 5, 17, 33, 16, 0};
    private static final int KINDS_THAT_CHANGE = 13;
    private static final int KINDS_THAT_LOOK = 5;

    private final Random random;
    private final Desk desk = new Desk();
    private final PlainDesk plain = new PlainDesk();
    private final int oddOf;
    private final int procsUsed;
    private final int[] weights = new int[KINDS_THAT_CHANGE];

    private ModelTest(long seed) {
        random = new Random(seed);
        oddOf = 10 + random.nextInt(200);
        procsUsed = 1 + random.nextInt(8);
        for (int i = 0; i < weights.length; i++) {
            weights[i] = 1 + random.nextInt(12);
        }
        weights[2] = 1 + random.nextInt(3);
    }

    private int pick(int least, int most) {
        if (random.nextInt(oddOf) == 0) {
            return ODD[random.nextInt(ODD.length)];
        }
        return least + random.nextInt(most - least + 1);
    }

    private int proc() {
        return pick(0, procsUsed - 1);
    }

    private static long answer(Expect.Call call) {
        try {
            return call.answer();
        } catch (IllegalStateException e) {
            return STATE;
        } catch (IllegalArgumentException e) {
            return ARGUMENT;
        }
    }

    private void both(String call, Expect.Call real, Expect.Call due) {
        Expect.same(call, answer(real), answer(due));
    }

    private int kindOfCall() {
        int sum = 0;
        for (int w : weights) {
            sum += w;
        }
        int at = random.nextInt(sum);
        int kind = 0;
        while (at >= weights[kind]) {
            at -= weights[kind++];
        }
        return kind;
    }

    private void change() {
        int p = proc();
        int d = pick(0, 7);
        int n = pick(0, 8);
        int name = pick(1, 9);
        int other = pick(1, 9);
        int how = random.nextInt(10) == 0 ? pick(0, 63) : HOWS[random.nextInt(HOWS.length)];
        int to = pick(-1, 7);
        int v = pick(-20, 70);
        int from = pick(0, 2);
        int b = random.nextInt(4) == 0 ? 4 : pick(0, 255);
        long bytes = random.nextLong();
        String with = " p " + p + " d " + d + " n " + n + " name " + name + " " + other + " how " + how + " to " + to;
        switch (kindOfCall()) {
            case 0: both("spawn", desk::spawn, plain::spawn); break;
            case 1: both("fork" + with, () -> desk.fork(p), () -> plain.fork(p)); break;
            case 2: both("exit" + with, () -> desk.exit(p), () -> plain.exit(p)); break;
            case 3: both("open" + with, () -> desk.open(p, name, how), () -> plain.open(p, name, how)); break;
            case 4: both("pipe" + with, () -> desk.pipe(p), () -> plain.pipe(p)); break;
            case 5: both("read" + with, () -> desk.read(p, d, n), () -> plain.read(p, d, n)); break;
            case 6: both("write" + with, () -> desk.write(p, d, bytes, n), () -> plain.write(p, d, bytes, n)); break;
            case 7: both("close" + with, () -> desk.close(p, d), () -> plain.close(p, d)); break;
            case 8: both("dup" + with, () -> desk.dup(p, d, to), () -> plain.dup(p, d, to)); break;
            case 9: both("seek" + with, () -> desk.seek(p, d, v, from), () -> plain.seek(p, d, v, from)); break;
            case 10: both("unlink" + with, () -> desk.unlink(p, name), () -> plain.unlink(p, name)); break;
            case 11: both("rename" + with, () -> desk.rename(p, name, other), () -> plain.rename(p, name, other)); break;
            default: both("type " + b, () -> desk.type(b), () -> plain.type(b)); break;
        }
    }

    private void look() {
        int p = proc();
        int d = pick(0, 7);
        int k = pick(-1, 61);
        int what = pick(-1, 9);
        switch (random.nextInt(KINDS_THAT_LOOK)) {
            case 0: both("given " + p, () -> desk.given(p), () -> plain.given(p)); break;
            case 1: both("shown " + k, () -> desk.shown(k), () -> plain.shown(k)); break;
            case 2: both("state " + p + " " + what / 3, () -> desk.state(p, what / 3), () -> plain.state(p, what / 3)); break;
            case 3: both("count " + what, () -> desk.count(what), () -> plain.count(what)); break;
            default: both("about " + p + " " + d + " " + what / 2,
                () -> desk.about(p, d, what / 2), () -> plain.about(p, d, what / 2)); break;
        }
    }

    /** The desk keeps to the 512 calls that the document promises: some change it, some look at it. */
    private void run() {
        int looksOfTen = 1 + random.nextInt(5);
        for (int i = 0; i < CALLS; i++) {
            if (random.nextInt(10) < looksOfTen) {
                look();
            } else {
                change();
            }
        }
    }

    public static void main(String[] args) {
        for (long seed = 0; seed < RUNS; seed++) {
            new ModelTest(seed).run();
        }
        Expect.finish();
    }
}
