/** Promises 18 and 19: about and count. */
public final class AboutAndCountTest {
    private static final int[] OUTSIDE = {Integer.MIN_VALUE, -1, 8, Integer.MAX_VALUE};

    private AboutAndCountTest() {
    }

    private static void row(Desk x, int d, int... due) {
        for (int what = 0; what < due.length; what++) {
            Expect.same("about(0, " + d + ", " + what + ")", x.about(0, d, what), due[what]);
        }
    }

    /** Promise 18. */
    private static void about() {
        Desk x = new Desk();
        x.spawn();
        x.pipe(0);
        x.open(0, 1, 15);
        x.open(0, 1, 1);
        x.write(0, 3, 0, 5);
        x.write(0, 4, 0, 7);
        x.read(0, 5, 2);
        x.type(1);
        x.write(0, 1, 0, 8);
        x.fork(0);
        x.dup(0, 4, 7);
        row(x, 0, 4, 4, 1, 0, 3);
        row(x, 1, 4, 4, 1, 0, 3);
        row(x, 2, 1, 2, 5, 0, 1);
        row(x, 3, 2, 2, 5, 0, 2);
        row(x, 4, 3, 3, 7, 7, 7);
        row(x, 5, 3, 2, 7, 2, 1);
        row(x, 6, 0, -1, -1, -1, -1);
        row(x, 7, 3, 3, 7, 7, 7);
        for (int what : new int[] {Integer.MIN_VALUE, -1, 5, Integer.MAX_VALUE}) {
            Expect.same("another what", x.about(0, 0, what), -1);
            Expect.same("another what of none", x.about(0, 6, what), -1);
        }
        for (int i : OUTSIDE) {
            for (int what = 0; what < 5; what++) {
                Expect.same("about of process " + i, x.about(i, 0, what), -1);
                Expect.same("about of descriptor " + i, x.about(0, i, what), -1);
            }
        }
        Expect.same("an absent one", x.about(5, 0, 0), 0);
        Expect.same("an absent one", x.about(5, 0, 1), -1);
        x.read(1, 2, 8);
        x.read(1, 2, 8);
        Expect.same("of one that waits", x.about(1, 2, 0), 1);
        x.exit(1);
        Expect.same("of one that was there", x.about(1, 2, 0), 0);
        Expect.same("held by one less", x.about(0, 2, 1), 1);
    }

    private static void counts(Desk x, int... due) {
        for (int what = 0; what < due.length; what++) {
            Expect.same("count(" + what + ")", x.count(what), due[what]);
        }
    }

    /** Promise 19. */
    private static void count() {
        Desk x = new Desk();
        x.spawn();
        x.pipe(0);
        x.pipe(0);
        x.fork(0);
        x.spawn();
        x.open(2, 1, 9);
        x.open(2, 2, 9);
        x.unlink(2, 2);
        x.write(0, 3, 0, 8);
        x.write(0, 5, 0, 6);
        x.write(0, 0, 0, 7);
        counts(x, 3, 0, 8, 2, 2, 1, 14, 7, 0);
        x.read(2, 0, 1);
        counts(x, 3, 1, 8, 2, 2, 1, 14, 7, 0);
        x.exit(2);
        counts(x, 2, 0, 5, 2, 1, 1, 14, 7, 0);
        x.exit(0);
        x.exit(1);
        counts(x, 0, 0, 0, 0, 1, 1, 0, 7, 0);
        for (int what : new int[] {Integer.MIN_VALUE, -1, 9, Integer.MAX_VALUE}) {
            Expect.same("count(" + what + ")", x.count(what), -1);
        }
    }

    private static void vainRing() {
        Desk x = new Desk();
        x.spawn();
        x.pipe(0);
        x.pipe(0);
        x.fork(0);
        // 0 reads the first pipe and writes the second; 1 the other way round.
        x.close(0, 3);
        x.close(0, 4);
        x.close(1, 2);
        x.close(1, 5);
        Expect.same("0 waits for 1", x.read(0, 2, 1), -6);
        Expect.same("1 may still write", x.count(8), 0);
        Expect.same("1 waits for 0", x.read(1, 4, 1), -6);
        Expect.same("both in vain", x.count(8), 2);
        Expect.same("both wait", x.count(1), 2);
        Expect.same("one more, that waits for the console", x.spawn(), 2);
        x.read(2, 0, 1);
        Expect.same("not in vain", x.count(8), 2);
        Expect.same("exit wakes the other", x.exit(1), 1);
        Expect.same("none in vain", x.count(8), 0);
    }

    private static void vainWithOneOutside() {
        Desk x = new Desk();
        x.spawn();
        x.pipe(0);
        x.fork(0);
        x.fork(0);
        x.read(0, 2, 1);
        x.read(1, 2, 1);
        Expect.same("2 has the end that writes", x.count(8), 0);
        x.read(2, 0, 1);
        Expect.same("2 waits for the console: not in vain", x.count(8), 0);
        x.type(1);
        x.close(2, 3);
        Expect.same("2 has it no more", x.count(8), 2);
        x.read(2, 2, 1);
        Expect.same("2 too", x.count(8), 3);
    }

    private static void vainChain() {
        Desk x = new Desk();
        x.spawn();
        x.pipe(0);
        x.pipe(0);
        x.pipe(0);
        for (int p = 1; p < 4; p++) {
            x.fork(0);
        }
        // Process p reads pipe p and is the only one to write pipe p - 1; 3 is outside.
        for (int p = 0; p < 4; p++) {
            for (int k = 0; k < 3; k++) {
                if (k != p) {
                    x.close(p, 2 + 2 * k);
                }
                if (k != p - 1) {
                    x.close(p, 3 + 2 * k);
                }
            }
        }
        Expect.same("0 waits", x.read(0, 2, 1), -6);
        Expect.same("1 waits", x.read(1, 4, 1), -6);
        Expect.same("2 waits", x.read(2, 6, 1), -6);
        Expect.same("3 may write, so none is in vain", x.count(8), 0);
        x.read(3, 0, 1);
        Expect.same("nor while 3 waits for the console", x.count(8), 0);
        Expect.same("typed", x.type(1), 1);
        x.pipe(3);
        x.read(3, 2, 1);
        Expect.same("3 waits for itself, and so do all", x.count(8), 4);
    }

    private static void vainWriters() {
        Desk x = new Desk();
        x.spawn();
        x.pipe(0);
        x.fork(0);
        x.close(1, 2);
        for (int i = 0; i < 4; i++) {
            x.write(0, 3, 0, 8);
        }
        Expect.same("1 waits to write", x.write(1, 3, 0, 1), -6);
        Expect.same("0 may read", x.count(8), 0);
        Expect.same("0 waits to write", x.write(0, 3, 0, 1), -6);
        Expect.same("both in vain", x.count(8), 2);
        Expect.same("exit of 0 breaks the pipe", x.exit(0), 1);
        Expect.same("none", x.count(8), 0);
    }

    private static void vainWithoutTheFirst() {
        Desk x = new Desk();
        x.spawn();
        x.spawn();
        x.pipe(1);
        Expect.same("1 waits for itself", x.read(1, 2, 1), -6);
        Expect.same("0 has nothing to do with it", x.count(8), 1);
    }

    /** An opening that was a file's is used again: nothing of it is seen. */
    private static void openingsUsedAgain() {
        Desk x = new Desk();
        x.spawn();
        x.open(0, 1, 11);
        x.seek(0, 2, 5, 0);
        x.close(0, 2);
        Expect.same("another", x.open(0, 1, 3), 2);
        row(x, 2, 3, 1, 0, 0, 3);
        x.seek(0, 2, 5, 0);
        x.close(0, 2);
        x.spawn();
        Expect.same("the console has no position", x.about(1, 0, 3), 0);
        Expect.same("the console", x.about(1, 0, 0), 4);
        x.exit(1);
        x.open(0, 1, 3);
        x.open(0, 1, 3);
        x.seek(0, 2, 5, 0);
        x.seek(0, 3, 5, 0);
        x.close(0, 2);
        x.close(0, 3);
        x.pipe(0);
        row(x, 2, 1, 1, 0, 0, 1);
        row(x, 3, 2, 1, 0, 0, 2);
        x.close(0, 2);
        x.close(0, 3);
        x.spawn();
        row(x, 0, 4, 2, 0, 0, 3);
        Expect.same("the console again", x.about(1, 0, 0), 4);
        x.open(0, 1, 1);
        row(x, 2, 3, 1, 0, 0, 1);
    }

    public static void main(String[] args) {
        about();
        count();
        vainRing();
        vainWithOneOutside();
        vainChain();
        vainWriters();
        vainWithoutTheFirst();
        openingsUsedAgain();
        Expect.finish();
    }
}
