/** Promises 1 to 4 and 17: a new object, spawn, fork, exit and state. */
public final class ProcessesTest {
    private static final int[] NO_PROCESS = {Integer.MIN_VALUE, -1, 8, 9, Integer.MAX_VALUE};

    private ProcessesTest() {
    }

    /** Promise 1. */
    private static void newObject() {
        Desk x = new Desk();
        for (int what = 0; what <= 8; what++) {
            Expect.same("new: count(" + what + ")", x.count(what), 0);
        }
        Expect.same("new: shown(0)", x.shown(0), -1);
        for (int p = 0; p < 8; p++) {
            Expect.same("new: state(" + p + ", 0)", x.state(p, 0), 0);
            Expect.same("new: given(" + p + ")", x.given(p), 0);
            Expect.same("new: about(" + p + ", 0, 0)", x.about(p, 0, 0), 0);
        }
        x.spawn();
        Expect.same("new: nothing typed", x.about(0, 0, 2), 0);
        for (int name = 1; name <= 9; name++) {
            Expect.same("new: open(0, " + name + ", 1)", x.open(0, name, 1), -2);
        }
        Expect.same("another new one has no processes", new Desk().count(0), 0);
    }

    /** Promise 2. */
    private static void spawn() {
        Desk x = new Desk();
        for (int p = 0; p < 8; p++) {
            Expect.same("spawn", x.spawn(), p);
            Expect.same("spawned is ready", x.state(p, 0), 1);
            Expect.same("spawned: descriptor 0", x.about(p, 0, 0), 4);
            Expect.same("spawned: descriptor 1", x.about(p, 1, 0), 4);
            Expect.same("spawned: descriptor 2", x.about(p, 2, 0), 0);
            Expect.same("spawned: one opening for both", x.about(p, 0, 1), 2);
            Expect.same("spawned: an opening of its own", x.count(2), p + 1);
        }
        Expect.same("spawn when all are there", x.spawn(), -4);
        x.exit(5);
        x.exit(2);
        Expect.same("spawn takes the least", x.spawn(), 2);
        Expect.same("spawn takes the next", x.spawn(), 5);
        Expect.same("processes", x.count(0), 8);
    }

    private static void spawnWithoutOpening() {
        Desk x = new Desk();
        for (int p = 0; p < 3; p++) {
            x.spawn();
            x.close(p, 0);
            x.close(p, 1);
            for (int i = 0; i < 6; i++) {
                Expect.same("open a file", x.open(p, 1, 9), i);
            }
        }
        x.spawn();
        x.open(3, 1, 1);
        Expect.same("all openings are there", x.count(2), 20);
        Expect.same("spawn without an opening", x.spawn(), -4);
        Expect.same("nothing changed", x.count(0), 4);
        Expect.same("still absent", x.state(4, 0), 0);
        Expect.same("fork needs no opening", x.fork(0), 4);
        x.close(3, 2);
        Expect.same("spawn with the last opening", x.spawn(), 5);
    }

    /** Promise 3. */
    private static void fork() {
        Desk x = new Desk();
        x.spawn();
        x.type(65);
        x.read(0, 0, 1);
        x.open(0, 3, 11);
        x.pipe(0);
        x.close(0, 0);
        Expect.same("fork", x.fork(0), 1);
        Expect.same("the child is ready", x.state(1, 0), 1);
        int[] kinds = {0, 4, 3, 1, 2, 0, 0, 0};
        for (int d = 0; d < 8; d++) {
            Expect.same("child's descriptor " + d, x.about(1, d, 0), kinds[d]);
        }
        Expect.same("shared opening", x.about(0, 2, 1), 2);
        Expect.same("no new openings", x.count(2), 4);
        Expect.same("parent keeps what was given", x.given(0), 65);
        Expect.same("the child begins with 0", x.given(1), 0);
        x.write(1, 2, 0x0102L, 2);
        Expect.same("the position is shared", x.about(0, 2, 3), 2);
        x.close(1, 2);
        Expect.same("the parent's stays", x.about(0, 2, 0), 3);
        Expect.same("held once again", x.about(0, 2, 1), 1);
        for (int p = 2; p < 8; p++) {
            Expect.same("fork of a child", x.fork(p - 1), p);
        }
        Expect.same("fork when all are there", x.fork(0), -4);
        x.exit(3);
        Expect.same("fork takes the least", x.fork(7), 3);
        x.exit(0);
        Expect.same("the least may be 0", x.fork(7), 0);
    }

    private static void forkOfNone() {
        Desk x = new Desk();
        Expect.state("fork of an absent one", () -> x.fork(0));
        for (int p : NO_PROCESS) {
            Expect.state("fork(" + p + ")", () -> x.fork(p));
        }
        for (int p = 0; p < 8; p++) {
            x.spawn();
        }
        x.read(2, 0, 1);
        Expect.state("fork of one that waits, though all are there", () -> x.fork(2));
        Expect.same("fork of a ready one when all are there", x.fork(1), -4);
    }

    /** Promise 4. */
    private static void exit() {
        Desk x = new Desk();
        x.spawn();
        x.pipe(0);
        x.open(0, 1, 9);
        for (int p = 1; p < 4; p++) {
            x.fork(0);
            x.close(p, 3);
            Expect.same("waits", x.read(p, 2, 1), -6);
        }
        Expect.same("exit of one that waits wakes none", x.exit(3), 0);
        Expect.same("it is absent", x.state(3, 0), 0);
        Expect.same("it waits through none", x.state(3, 1), -1);
        Expect.same("it wants none", x.state(3, 2), 0);
        Expect.same("it has no descriptors", x.about(3, 0, 0), 0);
        Expect.same("the others wait", x.count(1), 2);
        Expect.same("exit of the last writer wakes two", x.exit(0), 2);
        Expect.same("none waits", x.count(1), 0);
        Expect.same("read at the end", x.read(1, 2, 1), 0);
        Expect.same("exit of a ready one", x.exit(1), 0);
        Expect.same("the pipe is still there", x.count(3), 1);
        x.exit(2);
        Expect.same("the pipe is gone", x.count(3), 0);
        Expect.same("the openings are gone", x.count(2), 0);
        Expect.same("the file has its name", x.count(4), 1);
        Expect.state("exit of an absent one", () -> x.exit(0));
        for (int p : NO_PROCESS) {
            Expect.state("exit(" + p + ")", () -> x.exit(p));
        }
    }

    private static void exitOfLastReader() {
        Desk x = new Desk();
        x.spawn();
        x.pipe(0);
        x.fork(0);
        x.close(1, 2);
        for (int i = 0; i < 4; i++) {
            x.write(1, 3, 0, 8);
        }
        Expect.same("a full pipe", x.write(1, 3, 0, 8), -6);
        Expect.same("exit of the last reader wakes the writer", x.exit(0), 1);
        Expect.same("the same call anew", x.write(1, 3, 0, 8), -5);
    }

    private static void beginsAnew() {
        Desk x = new Desk();
        x.spawn();
        x.type(9);
        x.read(0, 0, 1);
        Expect.same("given", x.given(0), 9);
        x.read(0, 0, 5);
        x.exit(0);
        Expect.same("given of an absent one", x.given(0), 0);
        Expect.same("spawn again", x.spawn(), 0);
        Expect.same("nothing was given to it", x.given(0), 0);
        Expect.same("ready", x.state(0, 0), 1);
        Expect.same("waits through none", x.state(0, 1), -1);
        Expect.same("wants none", x.state(0, 2), 0);
        Expect.same("descriptor 2", x.about(0, 2, 0), 0);
    }

    /** Promise 17. */
    private static void state() {
        Desk x = new Desk();
        x.spawn();
        x.spawn();
        x.pipe(1);
        Expect.same("ready: 0", x.state(0, 0), 1);
        Expect.same("ready: 1", x.state(0, 1), -1);
        Expect.same("ready: 2", x.state(0, 2), 0);
        x.read(0, 1, 7);
        Expect.same("to read: 0", x.state(0, 0), 2);
        Expect.same("to read: 1", x.state(0, 1), 1);
        Expect.same("to read: 2", x.state(0, 2), 7);
        for (int i = 0; i < 4; i++) {
            x.write(1, 3, 0, 8);
        }
        x.write(1, 3, 0, 6);
        Expect.same("to write: 0", x.state(1, 0), 3);
        Expect.same("to write: 1", x.state(1, 1), 3);
        Expect.same("to write: 2", x.state(1, 2), 6);
        x.type(1);
        Expect.same("woken: 0", x.state(0, 0), 1);
        Expect.same("woken: 1", x.state(0, 1), -1);
        Expect.same("woken: 2", x.state(0, 2), 0);
        Expect.same("another what", x.state(0, 3), -1);
        Expect.same("another what", x.state(1, -1), -1);
        Expect.same("another what of an absent one", x.state(5, 3), -1);
        for (int p : NO_PROCESS) {
            Expect.same("state(" + p + ", 0)", x.state(p, 0), 0);
            Expect.same("state(" + p + ", 1)", x.state(p, 1), -1);
            Expect.same("state(" + p + ", 2)", x.state(p, 2), 0);
            Expect.same("state(" + p + ", 3)", x.state(p, 3), -1);
        }
    }

    /** Terms: a call of a process that is absent or waits throws, before its other arguments are looked at. */
    private static void callsOfAbsentAndWaiting() {
        Desk x = new Desk();
        x.spawn();
        x.read(0, 0, 1);
        int[] none = {0, 1, 7, Integer.MIN_VALUE, -1, 8, Integer.MAX_VALUE};
        for (int p : none) {
            Expect.state("fork", () -> x.fork(p));
            Expect.state("open", () -> x.open(p, 1, 9));
            Expect.state("open, bad", () -> x.open(p, 0, 0));
            Expect.state("pipe", () -> x.pipe(p));
            Expect.state("read", () -> x.read(p, 0, 1));
            Expect.state("read, bad", () -> x.read(p, 9, 9));
            Expect.state("write", () -> x.write(p, 0, 1, 1));
            Expect.state("write, bad", () -> x.write(p, 9, 1, 9));
            Expect.state("close", () -> x.close(p, 0));
            Expect.state("dup", () -> x.dup(p, 0, -1));
            Expect.state("dup, bad", () -> x.dup(p, 0, 8));
            Expect.state("seek", () -> x.seek(p, 0, 0, 0));
            Expect.state("seek, bad", () -> x.seek(p, 0, 0, 3));
            Expect.state("unlink", () -> x.unlink(p, 1));
            Expect.state("unlink, bad", () -> x.unlink(p, 0));
            Expect.state("rename", () -> x.rename(p, 1, 2));
            Expect.state("rename, bad", () -> x.rename(p, 0, 2));
        }
        Expect.same("it still waits", x.state(0, 0), 2);
        Expect.same("exit of it", x.exit(0), 0);
    }

    public static void main(String[] args) {
        newObject();
        spawn();
        spawnWithoutOpening();
        fork();
        forkOfNone();
        exit();
        exitOfLastReader();
        beginsAnew();
        state();
        callsOfAbsentAndWaiting();
        Expect.finish();
    }
}
