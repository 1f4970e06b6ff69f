/** The edges of what the terms say of waking, and of calls of processes that are absent or wait, a sentence each. */
public final class WakingEdgesTest {
    private WakingEdgesTest() {
    }

    /** Process 0 waits to read (2) what process 1 alone may write (3). */
    private static Desk readerWaits() {
        Desk x = Scenes.readerAndWriter();
        Expect.same("wait", x.read(0, 2, 5), -6);
        return x;
    }

    /** Process 1 waits to write n bytes (3) into a full pipe that process 0 alone may read (2). */
    private static Desk writerWaits(int n) {
        Desk x = Scenes.readerAndWriter();
        Scenes.fillPipe(x, 1, 3, 32);
        Expect.same("wait", x.write(1, 3, 0, n), -6);
        return x;
    }

    private static void ready(Desk x, int p) {
        Expect.same("ready", x.state(p, 0), 1);
        Expect.same("through none", x.state(p, 1), -1);
        Expect.same("wants none", x.state(p, 2), 0);
    }

    // Who reads a pipe

    private static void readerByOneByte() {
        Desk x = readerWaits();
        x.write(1, 3, 9, 1);
        ready(x, 0);
        Expect.same("the byte was not taken", x.about(0, 2, 2), 1);
        Expect.same("nothing was given", x.given(0), 0);
        Expect.same("it asks anew", x.read(0, 2, 5), 1);
    }

    private static void readerNotByNoBytes() {
        Desk x = readerWaits();
        Expect.same("write", x.write(1, 3, 9, 0), 0);
        Expect.same("waits", x.state(0, 0), 2);
        Expect.same("through 2", x.state(0, 1), 2);
        Expect.same("for 5", x.state(0, 2), 5);
    }

    private static void readerByTheLastClose() {
        Desk x = readerWaits();
        x.dup(1, 3, 7);
        x.fork(1);
        int[][] others = {{1, 3}, {2, 7}, {1, 7}};
        for (int[] at : others) {
            x.close(at[0], at[1]);
            Expect.same("another writes", x.state(0, 0), 2);
        }
        x.close(2, 3);
        ready(x, 0);
        Expect.same("it asks anew", x.read(0, 2, 5), 0);
    }

    private static void readerByDup() {
        Desk x = readerWaits();
        x.dup(1, 3, 3);
        Expect.same("to itself", x.state(0, 0), 2);
        x.dup(1, 3, 4);
        x.dup(1, 0, 3);
        Expect.same("another writes", x.state(0, 0), 2);
        x.dup(1, 0, 4);
        ready(x, 0);
    }

    private static void readerByExit() {
        Desk x = readerWaits();
        Expect.same("exit", x.exit(1), 1);
        ready(x, 0);
    }

    private static void readerNotByOtherThings() {
        Desk x = readerWaits();
        x.spawn();
        x.fork(1);
        x.pipe(1);
        x.open(1, 1, 11);
        x.write(1, 5, 1, 1);
        x.write(1, 0, 1, 1);
        x.type(9);
        x.seek(1, 6, 0, 0);
        x.rename(1, 1, 2);
        x.unlink(1, 2);
        x.read(1, 0, 1);
        x.close(1, 0);
        x.exit(2);
        Expect.same("waits", x.state(0, 0), 2);
        Expect.same("alone", x.count(1), 1);
    }

    private static void allReadersAtOnce() {
        Desk x = Scenes.readerAndWriter();
        for (int p = 2; p < 8; p++) {
            x.fork(0);
        }
        for (int p = 0; p < 8; p++) {
            if (p != 1) {
                x.read(p, 2, p + 1);
            }
        }
        Expect.same("seven wait", x.count(1), 7);
        x.write(1, 3, 9, 1);
        Expect.same("none waits", x.count(1), 0);
        Expect.same("one takes it", x.read(7, 2, 8), 1);
        for (int p = 0; p < 7; p++) {
            Expect.same("the others are ready all the same", x.state(p, 0), 1);
        }
        Expect.same("and may wait anew", x.read(0, 2, 1), -6);
    }

    // Who writes into a pipe

    private static void writerByRoom() {
        for (int n = 1; n <= 8; n++) {
            Desk x = writerWaits(n);
            for (int i = 1; i < n; i++) {
                x.read(0, 2, 1);
                Expect.same("room for less", x.state(1, 0), 3);
            }
            Expect.same("through 3", x.state(1, 1), 3);
            Expect.same("n", x.state(1, 2), n);
            x.read(0, 2, 1);
            ready(x, 1);
            Expect.same("nothing was written", x.about(0, 2, 2), 32 - n);
            Expect.same("it asks anew", x.write(1, 3, 0, n), n);
        }
    }

    private static void writerNotByNoBytes() {
        Desk x = writerWaits(1);
        Expect.same("read", x.read(0, 2, 0), 0);
        Expect.same("waits", x.state(1, 0), 3);
    }

    private static void writersAsFarAsThereIsRoom() {
        Desk x = Scenes.readerAndWriter();
        for (int p = 2; p < 6; p++) {
            x.fork(1);
        }
        Scenes.fillPipe(x, 1, 3, 32);
        for (int p = 1; p < 6; p++) {
            Expect.same("wait", x.write(p, 3, 0, p), -6);
        }
        x.read(0, 2, 3);
        for (int p = 1; p < 6; p++) {
            Expect.same("n " + p, x.state(p, 0), p <= 3 ? 1 : 3);
        }
        Expect.same("one takes the room", x.write(3, 3, 0, 3), 3);
        Expect.same("another is ready all the same", x.state(1, 0), 1);
        Expect.same("and may wait anew", x.write(1, 3, 0, 1), -6);
    }

    private static void writerByTheLastClose() {
        Desk x = writerWaits(2);
        x.dup(0, 2, 7);
        x.close(0, 2);
        Expect.same("another reads", x.state(1, 0), 3);
        x.close(0, 7);
        ready(x, 1);
        Expect.same("it asks anew", x.write(1, 3, 0, 2), -5);
    }

    private static void writerByDup() {
        Desk x = writerWaits(2);
        x.dup(0, 2, 2);
        Expect.same("to itself", x.state(1, 0), 3);
        x.dup(0, 0, 2);
        ready(x, 1);
    }

    private static void writerByExit() {
        Desk x = writerWaits(2);
        x.fork(0);
        Expect.same("another reads", x.exit(0), 0);
        Expect.same("the last one", x.exit(2), 1);
        ready(x, 1);
    }

    // Who reads the console

    private static void consoleByAnyByte() {
        for (int b : new int[] {0, 4, 255}) {
            Desk x = Scenes.one();
            x.read(0, 1, 3);
            Expect.same("type", x.type(b), 1);
            ready(x, 0);
            Expect.same("nothing was taken", x.about(0, 0, 2), 1);
        }
    }

    private static void consoleNotByWhatIsShown() {
        Desk x = Scenes.processes(2);
        x.read(0, 1, 3);
        x.write(1, 1, 9, 1);
        x.exit(1);
        Expect.same("waits", x.state(0, 0), 2);
    }

    private static void whatOthersTook() {
        Desk x = Scenes.processes(2);
        x.read(0, 0, 1);
        x.type(9);
        Expect.same("another takes it", x.read(1, 0, 1), 1);
        ready(x, 0);
        Expect.same("it waits anew", x.read(0, 0, 1), -6);
    }

    // Calls of one that is absent or waits

    private static void everyCallThrows(String what, Look.Scene scene, int p) {
        Look.Act[] acts = {
            x -> x.fork(p), x -> x.pipe(p), x -> x.close(p, 0), x -> x.dup(p, 0, -1), x -> x.dup(p, 0, 1),
            x -> x.open(p, 1, 9), x -> x.open(p, 1, 1), x -> x.read(p, 0, 0), x -> x.read(p, 0, 1), x -> x.read(p, 2, 1),
            x -> x.write(p, 0, 1, 0), x -> x.write(p, 0, 1, 1), x -> x.write(p, 3, 1, 1), x -> x.seek(p, 4, 0, 0),
            x -> x.unlink(p, 1), x -> x.rename(p, 1, 2),
        };
        for (int i = 0; i < acts.length; i++) {
            Look.throwsState(what + ", call " + i, scene, acts[i]);
        }
    }

    private static Desk withAll() {
        Desk x = Scenes.pipeOf(32);
        x.open(0, 1, 11);
        x.write(0, 4, 1, 1);
        return x;
    }

    private static void callsOfAbsent() {
        for (int p : new int[] {1, 7}) {
            everyCallThrows("absent", WakingEdgesTest::withAll, p);
            Look.throwsState("absent: exit", WakingEdgesTest::withAll, x -> x.exit(p));
        }
    }

    private static void callsOfNoProcess() {
        for (int p : new int[] {Integer.MIN_VALUE, -1, 8, Integer.MAX_VALUE}) {
            everyCallThrows("no process", WakingEdgesTest::withAll, p);
            Look.throwsState("no process: exit", WakingEdgesTest::withAll, x -> x.exit(p));
        }
    }

    private static void callsOfOneThatWaits() {
        everyCallThrows("waits to read", () -> {
            Desk x = withAll();
            x.read(0, 0, 1);
            return x;
        }, 0);
        everyCallThrows("waits to write", () -> {
            Desk x = withAll();
            x.write(0, 3, 1, 1);
            return x;
        }, 0);
    }

    private static void closedByExitAlone() {
        Desk x = readerWaits();
        Expect.state("close", () -> x.close(0, 2));
        Expect.state("close of another", () -> x.close(0, 0));
        Expect.same("it waits", x.state(0, 0), 2);
        Expect.same("exit", x.exit(0), 0);
        Expect.same("none reads then", x.write(1, 3, 1, 1), -5);
    }

    public static void main(String[] args) {
        Expect.sentence("as soon as: a byte is in the pipe", WakingEdgesTest::readerByOneByte);
        Expect.sentence("as soon as: not by no bytes", WakingEdgesTest::readerNotByNoBytes);
        Expect.sentence("as soon as: the last that writes is closed", WakingEdgesTest::readerByTheLastClose);
        Expect.sentence("as soon as: the last that writes is copied over", WakingEdgesTest::readerByDup);
        Expect.sentence("as soon as: the last that writes exits", WakingEdgesTest::readerByExit);
        Expect.sentence("as soon as: and not before", WakingEdgesTest::readerNotByOtherThings);
        Expect.sentence("All that may, are woken at once", WakingEdgesTest::allReadersAtOnce);
        Expect.sentence("as soon as: there is room for all n", WakingEdgesTest::writerByRoom);
        Expect.sentence("as soon as: not by no bytes read", WakingEdgesTest::writerNotByNoBytes);
        Expect.sentence("All that may, and no others", WakingEdgesTest::writersAsFarAsThereIsRoom);
        Expect.sentence("as soon as: the last that reads is closed", WakingEdgesTest::writerByTheLastClose);
        Expect.sentence("as soon as: the last that reads is copied over", WakingEdgesTest::writerByDup);
        Expect.sentence("as soon as: the last that reads exits", WakingEdgesTest::writerByExit);
        Expect.sentence("as soon as: a byte was typed", WakingEdgesTest::consoleByAnyByte);
        Expect.sentence("as soon as: not by what is shown", WakingEdgesTest::consoleNotByWhatIsShown);
        Expect.sentence("whether others took what was there, or not", WakingEdgesTest::whatOthersTook);
        Expect.sentence("a process that is absent throws", WakingEdgesTest::callsOfAbsent);
        Expect.sentence("a process that is not 0 .. 7 throws", WakingEdgesTest::callsOfNoProcess);
        Expect.sentence("a process that is waiting throws", WakingEdgesTest::callsOfOneThatWaits);
        Expect.sentence("it may be closed by exit() alone", WakingEdgesTest::closedByExitAlone);
        Expect.finish();
    }
}
