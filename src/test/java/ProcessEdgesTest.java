/** The edges of promises 1 to 4 and 17 (a new object, spawn, fork, exit, state), a sentence each. */
public final class ProcessEdgesTest {
    private static final int[] NO_PROCESS = {Integer.MIN_VALUE, -8, -1, 8, 9, 16, Integer.MAX_VALUE};

    private ProcessEdgesTest() {
    }

    // Promise 1

    private static void noProcesses() {
        Desk x = new Desk();
        Expect.same("processes that are there", x.count(0), 0);
        Expect.same("processes that wait", x.count(1), 0);
        Expect.same("in vain", x.count(8), 0);
        for (int p = 0; p < 8; p++) {
            Expect.same("state of " + p, x.state(p, 0), 0);
            int absent = p;
            Expect.state("exit of " + p, () -> x.exit(absent));
        }
        Expect.same("openings", x.count(2), 0);
        Expect.same("the first", x.spawn(), 0);
    }

    private static void noPipes() {
        Desk x = new Desk();
        Expect.same("pipes", x.count(3), 0);
        Expect.same("bytes in them", x.count(6), 0);
        Expect.same("room for six", Scenes.sixPipes().count(3), 6);
    }

    private static void noFiles() {
        Desk x = Scenes.one();
        Expect.same("files", x.count(4), 0);
        Expect.same("with names", x.count(5), 0);
        for (int name = 1; name <= 9; name++) {
            Expect.same("file " + name, x.open(0, name, 1), -2);
        }
        Expect.same("room for six", Scenes.sixFiles().count(4), 6);
    }

    private static void nothingTyped() {
        Desk x = Scenes.one();
        Expect.same("typed", x.about(0, 0, 2), 0);
        Expect.same("to read", x.read(0, 0, 1), -6);
    }

    private static void nothingShown() {
        Desk x = new Desk();
        Expect.same("in all", x.count(7), 0);
        for (int k = 0; k <= 60; k++) {
            Expect.same("shown " + k, x.shown(k), -1);
        }
    }

    private static void nothingOfAnotherObject() {
        Desk x = Scenes.fileOf(3);
        x.pipe(0);
        x.type(1);
        x.write(0, 0, 1, 1);
        Desk y = new Desk();
        for (int what = 0; what <= 8; what++) {
            Expect.same("count " + what, y.count(what), 0);
        }
        Expect.same("shown", y.shown(0), -1);
        y.spawn();
        Expect.same("typed", y.about(0, 0, 2), 0);
        Expect.same("file 1", y.open(0, 1, 1), -2);
    }

    // Promise 2

    private static void spawnsTheLeast() {
        Desk x = Scenes.processes(8);
        for (int p : new int[] {7, 3, 0}) {
            x.exit(p);
        }
        for (int p : new int[] {0, 3, 7}) {
            Expect.same("spawn", x.spawn(), p);
            Expect.same("ready", x.state(p, 0), 1);
        }
    }

    private static void spawnsWithOneNewOpening() {
        Desk x = new Desk();
        for (int p = 0; p < 8; p++) {
            x.spawn();
            Expect.same("openings", x.count(2), p + 1);
            for (int d = 0; d < 8; d++) {
                Expect.same("descriptor " + d, x.about(p, d, 0), d < 2 ? 4 : 0);
                Expect.same("held by", x.about(p, d, 1), d < 2 ? 2 : -1);
            }
        }
    }

    private static void spawnWhenAllAreThere() {
        Look.refused("a ninth", -4, () -> Scenes.processes(8), Desk::spawn);
        Look.refused("a ninth, one waits", -4, () -> {
            Desk x = Scenes.processes(8);
            x.read(7, 0, 1);
            return x;
        }, Desk::spawn);
        Expect.same("the eighth", Scenes.processes(7).spawn(), 7);
    }

    private static void spawnWhenNoOpeningIsFree() {
        Look.refused("with twenty openings", -4, () -> Scenes.openings(20), Desk::spawn);
        Desk x = Scenes.openings(19);
        Expect.same("with nineteen", x.spawn(), 4);
        Expect.same("openings", x.count(2), 20);
        Expect.same("then no more", x.spawn(), -4);
        x.exit(4);
        Expect.same("the last one again", x.spawn(), 4);
    }

    private static void spawnedAnewHasNothingOfTheFormer() {
        Desk x = Scenes.pipe();
        x.type(65);
        x.read(0, 0, 1);
        x.read(0, 2, 5);
        x.exit(0);
        x.spawn();
        Expect.same("ready", x.state(0, 0), 1);
        Expect.same("through none", x.state(0, 1), -1);
        Expect.same("wants none", x.state(0, 2), 0);
        Expect.same("given", x.given(0), 0);
        for (int d = 2; d < 8; d++) {
            Expect.same("descriptor " + d, x.about(0, d, 0), 0);
        }
    }

    // Promise 3

    private static void forksTheLeast() {
        Desk x = Scenes.processes(8);
        for (int p : new int[] {6, 2, 0}) {
            x.exit(p);
        }
        for (int p : new int[] {0, 2, 6}) {
            Expect.same("fork", x.fork(7), p);
            Expect.same("ready", x.state(p, 0), 1);
        }
    }

    private static void forkOfOneWithAllDescriptors() {
        Desk x = Scenes.one();
        for (int i = 0; i < 3; i++) {
            x.pipe(0);
        }
        x.fork(0);
        Expect.same("no new opening", x.count(2), 7);
        for (int d = 0; d < 8; d++) {
            Expect.same("kind of " + d, x.about(1, d, 0), x.about(0, d, 0));
            Expect.same("held by, " + d, x.about(1, d, 1), d < 2 ? 4 : 2);
        }
    }

    private static void forkOfOneWithNoDescriptor() {
        Desk x = Scenes.one();
        x.close(0, 0);
        x.close(0, 1);
        Expect.same("fork", x.fork(0), 1);
        Expect.same("ready", x.state(1, 0), 1);
        for (int d = 0; d < 8; d++) {
            Expect.same("descriptor " + d, x.about(1, d, 0), 0);
        }
        Expect.same("openings", x.count(2), 0);
    }

    private static void forkOfOneWithGaps() {
        Desk x = Scenes.one();
        x.dup(0, 0, 7);
        x.dup(0, 0, 4);
        x.close(0, 0);
        x.fork(0);
        for (int d = 0; d < 8; d++) {
            Expect.same("descriptor " + d, x.about(1, d, 0), d == 1 || d == 4 || d == 7 ? 4 : 0);
        }
        Expect.same("held by three and three", x.about(1, 7, 1), 6);
    }

    private static void forkWhenAllAreThere() {
        Look.refused("a ninth", -4, () -> Scenes.processes(8), x -> x.fork(0));
        Expect.same("the eighth", Scenes.processes(7).fork(6), 7);
    }

    private static void forkWhenNoOpeningIsFree() {
        Desk x = Scenes.openings(20);
        Expect.same("fork needs no opening", x.fork(1), 4);
        Expect.same("openings", x.count(2), 20);
    }

    private static void forkThrows() {
        for (int p : NO_PROCESS) {
            Look.throwsState("fork of " + p, Scenes::one, x -> x.fork(p));
        }
        Look.throwsState("fork of an absent one", Scenes::one, x -> x.fork(7));
        Look.throwsState("fork of one that waits to read", ProcessEdgesTest::oneWaitsToRead, x -> x.fork(0));
        Look.throwsState("fork of one that waits to write", ProcessEdgesTest::oneWaitsToWrite, x -> x.fork(0));
        Desk x = Scenes.processes(8);
        x.read(3, 0, 1);
        Expect.state("of one that waits, when all are there", () -> x.fork(3));
    }

    private static Desk oneWaitsToRead() {
        Desk x = Scenes.one();
        x.read(0, 0, 3);
        return x;
    }

    private static Desk oneWaitsToWrite() {
        Desk x = Scenes.pipeOf(32);
        x.write(0, 3, 1, 2);
        return x;
    }

    // Promise 4

    private static void exitOfAReadyOne() {
        Desk x = Scenes.pipe();
        Expect.same("exit", x.exit(0), 0);
        gone(x, 0);
    }

    private static void exitOfOneThatWaits() {
        Desk x = oneWaitsToRead();
        Expect.same("to read: it is not woken itself", x.exit(0), 0);
        gone(x, 0);
        Desk y = oneWaitsToWrite();
        Expect.same("to write: it is not woken itself", y.exit(0), 0);
        gone(y, 0);
    }

    private static void gone(Desk x, int p) {
        Expect.same("absent", x.state(p, 0), 0);
        Expect.same("through none", x.state(p, 1), -1);
        Expect.same("wants none", x.state(p, 2), 0);
        Expect.same("processes", x.count(0), 0);
        Expect.same("that wait", x.count(1), 0);
        Expect.same("openings", x.count(2), 0);
        Expect.same("pipes", x.count(3), 0);
        Expect.same("bytes in pipes", x.count(6), 0);
        for (int d = 0; d < 8; d++) {
            Expect.same("descriptor " + d, x.about(p, d, 0), 0);
        }
    }

    private static void exitLeavesWhatOthersHold() {
        Desk x = Scenes.pipeOf(2);
        x.fork(0);
        x.exit(0);
        Expect.same("openings", x.count(2), 3);
        Expect.same("held by", x.about(1, 2, 1), 1);
        Expect.same("read", x.read(1, 2, 8), 2);
    }

    private static void exitLeavesFilesWithNames() {
        Desk x = Scenes.fileOf(2);
        x.open(0, 2, 9);
        x.unlink(0, 2);
        Expect.same("two files", x.count(4), 2);
        x.exit(0);
        Expect.same("the one with a name", x.count(4), 1);
        x.spawn();
        x.open(0, 1, 1);
        Expect.same("with its bytes", x.about(0, 2, 2), 2);
    }

    private static void exitWakesSeven() {
        Desk x = Scenes.pipe();
        for (int p = 1; p < 8; p++) {
            x.fork(0);
            x.close(p, 3);
            Expect.same("wait", x.read(p, 2, p), -6);
        }
        Expect.same("the only one that writes", x.exit(0), 7);
        Expect.same("none waits", x.count(1), 0);
    }

    private static void exitWakesBothSorts() {
        Desk x = Scenes.pipe();
        x.pipe(0);
        Scenes.fillPipe(x, 0, 5, 32);
        x.fork(0);
        x.fork(0);
        // Process 0 alone writes the empty pipe and alone reads the full one.
        for (int p = 1; p <= 2; p++) {
            x.close(p, 3);
            x.close(p, 4);
        }
        Expect.same("to read", x.read(1, 2, 1), -6);
        Expect.same("to write", x.write(2, 5, 0, 1), -6);
        Expect.same("both are woken", x.exit(0), 2);
        Expect.same("no more is to come", x.read(1, 2, 1), 0);
        Expect.same("broken", x.write(2, 5, 0, 1), -5);
    }

    private static void exitOfOneThatWaitsWakes() {
        Desk x = Scenes.readerAndWriter();
        x.read(0, 2, 1);
        x.read(1, 0, 1);
        Expect.same("the one that writes waits itself", x.exit(1), 1);
        Expect.same("ready", x.state(0, 0), 1);
    }

    private static void exitWakesNoneWhileAnotherWrites() {
        Desk x = Scenes.readerAndWriter();
        x.fork(1);
        x.read(0, 2, 1);
        Expect.same("another one writes", x.exit(1), 0);
        Expect.same("waits", x.state(0, 0), 2);
        Expect.same("the last one", x.exit(2), 1);
    }

    private static void exitThrows() {
        for (int p : NO_PROCESS) {
            Look.throwsState("exit of " + p, Scenes::one, x -> x.exit(p));
        }
        Look.throwsState("exit of one that never was", Scenes::one, x -> x.exit(1));
        Desk x = Scenes.processes(8);
        for (int p = 0; p < 8; p++) {
            int again = p;
            x.exit(p);
            Expect.state("exit again", () -> x.exit(again));
        }
    }

    // Promise 17

    private static void stateOfAbsent() {
        Desk x = oneWaitsToRead();
        x.exit(0);
        for (int p = 0; p < 8; p++) {
            Expect.same("0", x.state(p, 0), 0);
            Expect.same("1", x.state(p, 1), -1);
            Expect.same("2", x.state(p, 2), 0);
        }
    }

    private static void stateOfReady() {
        Desk x = Scenes.processes(8);
        for (int p = 0; p < 8; p++) {
            Expect.same("0", x.state(p, 0), 1);
            Expect.same("1", x.state(p, 1), -1);
            Expect.same("2", x.state(p, 2), 0);
        }
    }

    private static void stateOfWaiting() {
        for (int n = 1; n <= 8; n++) {
            Desk x = Scenes.one();
            x.dup(0, 0, 7);
            x.read(0, n == 8 ? 7 : n % 2, n);
            Expect.same("to read: 0", x.state(0, 0), 2);
            Expect.same("to read: 1", x.state(0, 1), n == 8 ? 7 : n % 2);
            Expect.same("to read: 2", x.state(0, 2), n);
            Desk y = Scenes.pipeOf(32);
            y.write(0, 3, 0, n);
            Expect.same("to write: 0", y.state(0, 0), 3);
            Expect.same("to write: 1", y.state(0, 1), 3);
            Expect.same("to write: 2", y.state(0, 2), n);
        }
    }

    private static void stateOfWoken() {
        Desk x = oneWaitsToRead();
        x.type(4);
        Expect.same("0", x.state(0, 0), 1);
        Expect.same("1", x.state(0, 1), -1);
        Expect.same("2", x.state(0, 2), 0);
    }

    private static void stateOfAnotherWhat() {
        Desk x = oneWaitsToRead();
        x.spawn();
        for (int what : new int[] {Integer.MIN_VALUE, -1, 3, 4, Integer.MAX_VALUE}) {
            Expect.same("of one that waits", x.state(0, what), -1);
            Expect.same("of a ready one", x.state(1, what), -1);
            Expect.same("of an absent one", x.state(2, what), -1);
            Expect.same("of process -1", x.state(-1, what), -1);
            Expect.same("of process 8", x.state(8, what), -1);
        }
    }

    private static void stateOfNoProcess() {
        Desk x = Scenes.processes(8);
        x.read(0, 0, 4);
        x.read(7, 1, 5);
        for (int p : NO_PROCESS) {
            Expect.same("0 of " + p, x.state(p, 0), 0);
            Expect.same("1 of " + p, x.state(p, 1), -1);
            Expect.same("2 of " + p, x.state(p, 2), 0);
        }
    }

    public static void main(String[] args) {
        Expect.sentence("1: No processes", ProcessEdgesTest::noProcesses);
        Expect.sentence("1: No pipes", ProcessEdgesTest::noPipes);
        Expect.sentence("1: No files", ProcessEdgesTest::noFiles);
        Expect.sentence("1: nothing typed", ProcessEdgesTest::nothingTyped);
        Expect.sentence("1: nothing shown", ProcessEdgesTest::nothingShown);
        Expect.sentence("1: nothing, whatever another object has", ProcessEdgesTest::nothingOfAnotherObject);
        Expect.sentence("2: The least process that is absent is ready", ProcessEdgesTest::spawnsTheLeast);
        Expect.sentence("2: descriptors 0 and 1 to one new opening", ProcessEdgesTest::spawnsWithOneNewOpening);
        Expect.sentence("2: -4 when all are there", ProcessEdgesTest::spawnWhenAllAreThere);
        Expect.sentence("2: or FULL", ProcessEdgesTest::spawnWhenNoOpeningIsFree);
        Expect.sentence("2: a number that is used again", ProcessEdgesTest::spawnedAnewHasNothingOfTheFormer);
        Expect.sentence("3: Likewise", ProcessEdgesTest::forksTheLeast);
        Expect.sentence("3: the same descriptors, all eight", ProcessEdgesTest::forkOfOneWithAllDescriptors);
        Expect.sentence("3: the same descriptors, none", ProcessEdgesTest::forkOfOneWithNoDescriptor);
        Expect.sentence("3: the same descriptors, with gaps", ProcessEdgesTest::forkOfOneWithGaps);
        Expect.sentence("3: -4 when all are there", ProcessEdgesTest::forkWhenAllAreThere);
        Expect.sentence("3: no opening is made", ProcessEdgesTest::forkWhenNoOpeningIsFree);
        Expect.sentence("3: IllegalStateException as said", ProcessEdgesTest::forkThrows);
        Expect.sentence("4: Process p, ready", ProcessEdgesTest::exitOfAReadyOne);
        Expect.sentence("4: Process p, waiting", ProcessEdgesTest::exitOfOneThatWaits);
        Expect.sentence("4: its descriptors are none, others' stay", ProcessEdgesTest::exitLeavesWhatOthersHold);
        Expect.sentence("4: its name holds a file", ProcessEdgesTest::exitLeavesFilesWithNames);
        Expect.sentence("4: how many were woken, the most", ProcessEdgesTest::exitWakesSeven);
        Expect.sentence("4: how many were woken, of both sorts", ProcessEdgesTest::exitWakesBothSorts);
        Expect.sentence("4: how many were woken, by one that waits", ProcessEdgesTest::exitOfOneThatWaitsWakes);
        Expect.sentence("4: how many were woken, none", ProcessEdgesTest::exitWakesNoneWhileAnotherWrites);
        Expect.sentence("4: IllegalStateException when it is absent", ProcessEdgesTest::exitThrows);
        Expect.sentence("17: 0 absent", ProcessEdgesTest::stateOfAbsent);
        Expect.sentence("17: 1 ready", ProcessEdgesTest::stateOfReady);
        Expect.sentence("17: 2 waits to read, 3 to write", ProcessEdgesTest::stateOfWaiting);
        Expect.sentence("17: ready again", ProcessEdgesTest::stateOfWoken);
        Expect.sentence("17: -1 for another what", ProcessEdgesTest::stateOfAnotherWhat);
        Expect.sentence("17: a p that is not 0 .. 7 is as an absent one", ProcessEdgesTest::stateOfNoProcess);
        Expect.finish();
    }
}
