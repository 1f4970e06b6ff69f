/** Promises 6, 7, 9, 10 and 11: pipe, and read, write, close and dup with pipes. */
public final class PipesTest {
    private static final int[] NO_DESCRIPTOR = {Integer.MIN_VALUE, -1, 6, 8, Integer.MAX_VALUE};
    private static final int[] NO_AMOUNT = {Integer.MIN_VALUE, -1, 9, Integer.MAX_VALUE};

    private PipesTest() {
    }

    /** Process 0 has a pipe: 2 reads, 3 writes. */
    private static Desk deskWithPipe() {
        Desk x = new Desk();
        x.spawn();
        Expect.same("pipe", x.pipe(0), 2 + 8 * 3);
        return x;
    }

    /** Process 0 alone reads (2), process 1 alone writes (3). */
    private static Desk readerAndWriter() {
        Desk x = deskWithPipe();
        x.fork(0);
        x.close(0, 3);
        x.close(1, 2);
        return x;
    }

    private static void fill(Desk x, int p, int d, int n) {
        for (int i = 0; i < n; i++) {
            Expect.same("fill", x.write(p, d, i, 1), 1);
        }
    }

    /** Promise 6. */
    private static void pipe() {
        Desk x = deskWithPipe();
        Expect.same("reads", x.about(0, 2, 0), 1);
        Expect.same("writes", x.about(0, 3, 0), 2);
        Expect.same("right to read", x.about(0, 2, 4), 1);
        Expect.same("right to write", x.about(0, 3, 4), 2);
        Expect.same("openings", x.count(2), 3);
        x.close(0, 0);
        Expect.same("in the order of the descriptors", x.pipe(0), 0 + 8 * 4);
        Expect.same("the least reads", x.about(0, 0, 0), 1);
        Expect.same("next", x.pipe(0), 5 + 8 * 6);
        Expect.same("one descriptor only", x.pipe(0), -4);
        Expect.same("nothing changed", x.count(2), 7);
        Expect.same("nothing changed", x.count(3), 3);
        Expect.same("7 is free", x.about(0, 7, 0), 0);
        x.dup(0, 0, 7);
        Expect.same("no descriptor", x.pipe(0), -4);
    }

    private static void pipesEnd() {
        Desk x = new Desk();
        for (int p = 0; p < 2; p++) {
            x.spawn();
            x.pipe(p);
            x.pipe(p);
            Expect.same("third", x.pipe(p), 6 + 8 * 7);
        }
        Expect.same("six", x.count(3), 6);
        Expect.same("openings are free", x.count(2), 14);
        x.spawn();
        Expect.same("a seventh", x.pipe(2), -4);
        Expect.same("descriptor 2 is free", x.about(2, 2, 0), 0);
        x.close(1, 6);
        Expect.same("held by the other end", x.pipe(2), -4);
        x.close(1, 7);
        Expect.same("one again", x.pipe(2), 2 + 8 * 3);
    }

    private static void openingsEnd() {
        Desk x = new Desk();
        for (int p = 0; p < 3; p++) {
            x.spawn();
            for (int d = 2; d < (p == 2 ? 7 : 8); d++) {
                x.open(p, 1, 9);
            }
        }
        x.close(2, 6);
        Expect.same("one opening is free", x.count(2), 19);
        Expect.same("two are needed", x.pipe(2), -4);
        Expect.same("nothing changed", x.count(2), 19);
        x.close(1, 7);
        Expect.same("two are free", x.pipe(2), 6 + 8 * 7);
        Expect.same("all are there", x.count(2), 20);
    }

    /** Promise 7. */
    private static void read() {
        Desk x = deskWithPipe();
        x.write(0, 3, 0x0102030405L, 5);
        Expect.same("at most n", x.read(0, 2, 2), 2);
        Expect.same("as they came", x.given(0), 0x0102L);
        Expect.same("n 0", x.read(0, 2, 0), 0);
        Expect.same("nothing given", x.given(0), 0);
        Expect.same("as many as there are", x.read(0, 2, 8), 3);
        Expect.same("the rest", x.given(0), 0x030405L);
        Expect.same("n 0 of none", x.read(0, 2, 0), 0);
        Expect.same("the end that writes", x.read(0, 3, 1), -1);
        Expect.same("the end that writes, n 0", x.read(0, 3, 0), -1);
        for (int d : NO_DESCRIPTOR) {
            Expect.same("read of " + d, x.read(0, d, 1), -1);
        }
        for (int n : NO_AMOUNT) {
            Expect.argument("read n " + n, () -> x.read(0, 2, n));
            Expect.argument("read n " + n + " of none", () -> x.read(0, 9, n));
        }
        x.write(0, 3, 0xFF00000000000080L, 8);
        Expect.same("eight", x.read(0, 2, 8), 8);
        Expect.same("given, the sign bit too", x.given(0), 0xFF00000000000080L);
        Expect.same("bad gives nothing", x.read(0, 3, 1), -1);
        Expect.same("given stays", x.given(0), 0xFF00000000000080L);
        Expect.same("wait", x.read(0, 2, 4), -6);
        Expect.same("given stays", x.given(0), 0xFF00000000000080L);
    }

    /** Promise 8. */
    private static void given() {
        Desk x = deskWithPipe();
        Expect.same("before", x.given(0), 0);
        x.write(0, 3, 0x00FF00L, 3);
        x.read(0, 2, 3);
        Expect.same("first highest", x.given(0), 0x00FF00L);
        x.fork(0);
        Expect.same("a child", x.given(1), 0);
        x.write(1, 3, 0x05L, 1);
        x.read(1, 2, 1);
        Expect.same("each its own", x.given(1), 5);
        Expect.same("each its own", x.given(0), 0xFF00L);
        x.close(0, 3);
        x.close(1, 3);
        Expect.same("the end", x.read(1, 2, 1), 0);
        Expect.same("of no bytes", x.given(1), 0);
        for (int p : new int[] {Integer.MIN_VALUE, -1, 5, 8, Integer.MAX_VALUE}) {
            Expect.same("given(" + p + ")", x.given(p), 0);
        }
    }

    private static void readWaits() {
        Desk x = readerAndWriter();
        Expect.same("wait", x.read(0, 2, 8), -6);
        Expect.same("n 0 wakes none", x.write(1, 3, 0, 0), 0);
        Expect.same("still waits", x.state(0, 0), 2);
        Expect.same("one byte", x.write(1, 3, 7, 1), 1);
        Expect.same("woken", x.state(0, 0), 1);
        Expect.same("nothing was read for it", x.count(6), 1);
        Expect.same("read anew", x.read(0, 2, 8), 1);
        x.write(1, 3, 0x0102L, 2);
        x.close(1, 3);
        Expect.same("what is there comes before the end", x.read(0, 2, 1), 1);
        Expect.same("and this", x.read(0, 2, 1), 1);
        Expect.same("then the end", x.read(0, 2, 1), 0);
    }

    private static void allAreWoken() {
        Desk x = readerAndWriter();
        x.fork(0);
        x.fork(0);
        x.read(0, 2, 1);
        x.read(2, 2, 8);
        x.read(3, 2, 3);
        x.write(1, 3, 1, 1);
        Expect.same("one byte wakes all three", x.count(1), 0);
        Expect.same("the first takes it", x.read(3, 2, 3), 1);
        Expect.same("another one is ready all the same", x.state(0, 0), 1);
        Expect.same("and waits anew", x.read(0, 2, 1), -6);
        x.exit(0);
        x.exit(2);
        Expect.same("one that reads is left", x.write(1, 3, 1, 1), 1);
        x.exit(3);
        Expect.same("none is left", x.write(1, 3, 1, 1), -5);
    }

    /** Promise 9. */
    private static void write() {
        Desk x = deskWithPipe();
        Expect.same("the lowest n", x.write(0, 3, 0x1122334455667788L, 3), 3);
        x.read(0, 2, 8);
        Expect.same("the highest of these first", x.given(0), 0x667788L);
        Expect.same("n 0", x.write(0, 3, 1, 0), 0);
        Expect.same("nothing is in it", x.count(6), 0);
        Expect.same("the end that reads", x.write(0, 2, 1, 1), -1);
        for (int d : NO_DESCRIPTOR) {
            Expect.same("write of " + d, x.write(0, d, 1, 1), -1);
        }
        for (int n : NO_AMOUNT) {
            Expect.argument("write n " + n, () -> x.write(0, 3, 1, n));
            Expect.argument("write n " + n + " of none", () -> x.write(0, 9, 1, n));
        }
        fill(x, 0, 3, 32);
        Expect.same("full", x.about(0, 2, 2), 32);
        Expect.same("n 0 when full", x.write(0, 3, 1, 0), 0);
        x.close(0, 2);
        Expect.same("broken comes before wait", x.write(0, 3, 1, 1), -5);
        Expect.same("broken, n 0", x.write(0, 3, 1, 0), -5);
        Expect.same("ready", x.state(0, 0), 1);
        Expect.same("its bytes are still there", x.count(6), 32);
        x.close(0, 3);
        Expect.same("gone with it", x.count(6), 0);
        x.pipe(0);
        Expect.same("a new one has none", x.about(0, 2, 2), 0);
    }

    private static void writeWaits() {
        Desk x = readerAndWriter();
        x.fork(1);
        fill(x, 1, 3, 30);
        Expect.same("three have no room", x.write(1, 3, 0x0A0B0CL, 3), -6);
        Expect.same("nothing of it is in", x.count(6), 30);
        Expect.same("two have", x.write(2, 3, 0x0D0EL, 2), 2);
        Expect.same("one has none then", x.write(2, 3, 0, 1), -6);
        Expect.same("read one", x.read(0, 2, 1), 1);
        Expect.same("one is woken", x.state(2, 0), 1);
        Expect.same("the other not", x.state(1, 0), 3);
        x.read(0, 2, 1);
        Expect.same("nor now", x.state(1, 0), 3);
        Expect.same("n 0 takes nothing", x.read(0, 2, 0), 0);
        Expect.same("nor by n 0", x.state(1, 0), 3);
        x.read(0, 2, 1);
        Expect.same("now", x.state(1, 0), 1);
        Expect.same("nothing was written for it", x.count(6), 29);
        Expect.same("the same call", x.write(1, 3, 0x0A0B0CL, 3), 3);
        long due = 3;
        for (int i = 0; i < 27; i++) {
            x.read(0, 2, 1);
            Expect.same("in order", x.given(0), due++);
        }
        Expect.same("five are left", x.read(0, 2, 8), 5);
        Expect.same("in order, round the end of the row", x.given(0), 0x0D0E0A0B0CL);
    }

    private static void roundAndRound() {
        Desk x = deskWithPipe();
        for (int i = 0; i < 100; i++) {
            x.write(0, 3, 0x010203L * (i % 80), 4);
            x.read(0, 2, 4);
            Expect.same("round " + i, x.given(0), 0x010203L * (i % 80));
        }
    }

    /** Promise 10. */
    private static void close() {
        Desk x = deskWithPipe();
        Expect.same("close", x.close(0, 0), 0);
        Expect.same("it is none", x.about(0, 0, 0), 0);
        Expect.same("the opening is held by 1", x.count(2), 3);
        Expect.same("close again", x.close(0, 0), -1);
        for (int d : NO_DESCRIPTOR) {
            Expect.same("close of " + d, x.close(0, d), -1);
        }
        x.close(0, 1);
        Expect.same("the opening is gone", x.count(2), 2);
        x.write(0, 3, 1, 1);
        x.close(0, 3);
        Expect.same("an end holds the pipe", x.count(3), 1);
        Expect.same("with its byte", x.count(6), 1);
        x.close(0, 2);
        Expect.same("none does", x.count(3), 0);
        Expect.same("it needs none to be there", x.count(0), 1);
        Expect.same("nor to make some", x.pipe(0), 0 + 8 * 1);
    }

    private static void closeWakes() {
        Desk x = readerAndWriter();
        x.dup(1, 3, -1);
        Expect.same("wait", x.read(0, 2, 1), -6);
        x.close(1, 3);
        Expect.same("one that writes is left", x.state(0, 0), 2);
        Expect.same("close", x.close(1, 2), 0);
        Expect.same("none is left", x.state(0, 0), 1);
        Expect.same("the end", x.read(0, 2, 1), 0);

        Desk y = readerAndWriter();
        fill(y, 1, 3, 32);
        Expect.same("wait", y.write(1, 3, 0, 1), -6);
        Expect.same("close", y.close(0, 2), 0);
        Expect.same("woken", y.state(1, 0), 1);
        Expect.same("broken", y.write(1, 3, 0, 1), -5);
    }

    /** Promise 11. */
    private static void dup() {
        Desk x = deskWithPipe();
        Expect.same("the least that is free", x.dup(0, 3, -1), 4);
        Expect.same("the same opening", x.about(0, 4, 1), 2);
        Expect.same("no new opening", x.count(2), 3);
        Expect.same("onto a free one", x.dup(0, 2, 7), 7);
        Expect.same("reads", x.about(0, 7, 0), 1);
        Expect.same("onto another", x.dup(0, 2, 4), 4);
        Expect.same("reads", x.about(0, 4, 0), 1);
        Expect.same("held by three", x.about(0, 2, 1), 3);
        Expect.same("what it was goes", x.about(0, 3, 1), 1);
        Expect.same("onto one of the same opening", x.dup(0, 2, 4), 4);
        Expect.same("held by three", x.about(0, 2, 1), 3);
        Expect.same("onto itself", x.dup(0, 3, 3), 3);
        Expect.same("nothing changes", x.about(0, 3, 1), 1);
        Expect.same("it is there", x.about(0, 3, 0), 2);
        Expect.same("none, to itself", x.dup(0, 5, 5), -1);
        for (int d : NO_DESCRIPTOR) {
            Expect.same("dup of " + d, x.dup(0, d, -1), -1);
            Expect.same("dup of " + d + " to 0", x.dup(0, d, 0), -1);
        }
        Expect.same("0 is as it was", x.about(0, 0, 0), 4);
        for (int to : new int[] {Integer.MIN_VALUE, -2, 8, Integer.MAX_VALUE}) {
            Expect.argument("dup to " + to, () -> x.dup(0, 2, to));
            Expect.argument("dup of none to " + to, () -> x.dup(0, 6, to));
        }
        x.dup(0, 0, -1);
        x.dup(0, 0, -1);
        Expect.same("none is free", x.dup(0, 0, -1), -4);
        Expect.same("onto one that is there", x.dup(0, 0, 6), 6);
        x.close(0, 6);
        Expect.same("bad before full", x.dup(0, 6, -1), -1);
        Expect.same("free again", x.dup(0, 0, -1), 6);
        x.close(0, 0);
        Expect.same("0 is the least", x.dup(0, 2, -1), 0);
        Expect.same("onto 0", x.dup(0, 3, 0), 0);
        Expect.same("0 writes", x.about(0, 0, 0), 2);
    }

    private static void dupWakes() {
        Desk x = readerAndWriter();
        x.read(0, 2, 1);
        Expect.same("dup", x.dup(1, 0, 3), 3);
        Expect.same("the last that writes went", x.state(0, 0), 1);
        Expect.same("the pipe is held by the reader", x.count(3), 1);
        Expect.same("dup", x.dup(0, 0, 2), 2);
        Expect.same("the pipe is gone", x.count(3), 0);
    }

    public static void main(String[] args) {
        pipe();
        pipesEnd();
        openingsEnd();
        read();
        given();
        readWaits();
        allAreWoken();
        write();
        writeWaits();
        roundAndRound();
        close();
        closeWakes();
        dup();
        dupWakes();
        Expect.finish();
    }
}
