/** The edges of promises 18 and 19 (about, count), a sentence each. */
public final class AboutAndCountEdgesTest {
    private static final int[] OUTSIDE = {Integer.MIN_VALUE, -8, -1, 8, 9, 64, Integer.MAX_VALUE};

    private AboutAndCountEdgesTest() {
    }

    // Promise 18

    /** Process 0: 0 and 1 the console, 2 and 3 a pipe's ends, 4 a file at 7; 5, 6 and 7 are none. */
    private static Desk allKinds() {
        Desk x = Scenes.pipeOf(5);
        x.open(0, 1, 15);
        x.write(0, 4, 0, 7);
        x.type(1);
        return x;
    }

    private static void kinds() {
        int[] due = {4, 4, 1, 2, 3, 0, 0, 0};
        for (int d = 0; d < 8; d++) {
            Expect.same("of " + d, allKinds().about(0, d, 0), due[d]);
        }
    }

    private static void howManyDescriptors() {
        Desk x = Scenes.one();
        x.close(0, 1);
        Expect.same("the least", x.about(0, 0, 1), 1);
        for (int d = 1; d < 8; d++) {
            x.dup(0, 0, -1);
            Expect.same("of one process", x.about(0, 0, 1), d + 1);
        }
        for (int p = 1; p < 8; p++) {
            x.fork(0);
            Expect.same("of all", x.about(p, 7, 1), 8 * (p + 1));
        }
        x.close(3, 3);
        Expect.same("one less", x.about(0, 0, 1), 63);
        x.exit(5);
        Expect.same("eight less", x.about(0, 0, 1), 55);
        Expect.same("one opening", x.count(2), 1);
    }

    private static void bytesThatAreIn() {
        for (int bytes : new int[] {0, 1, 31, 32}) {
            Desk x = Scenes.pipeOf(bytes);
            Expect.same("a pipe, by the end that reads", x.about(0, 2, 2), bytes);
            Expect.same("a pipe, by the end that writes", x.about(0, 3, 2), bytes);
        }
        for (int bytes : new int[] {0, 1, 63, 64}) {
            Desk x = Scenes.fileOf(bytes);
            x.open(0, 1, 1);
            Expect.same("a file", x.about(0, 2, 2), bytes);
            Expect.same("a file, by another opening", x.about(0, 3, 2), bytes);
        }
        Desk x = Scenes.processes(2);
        for (int typed = 0; typed <= 40; typed++) {
            Expect.same("typed", x.about(0, 0, 2), typed);
            Expect.same("typed, by another opening", x.about(1, 1, 2), typed);
            x.type(9);
        }
        Expect.same("no more than forty", x.about(0, 0, 2), 40);
    }

    private static void positions() {
        Desk x = allKinds();
        for (int d = 0; d < 4; d++) {
            Expect.same("0 but of a file", x.about(0, d, 3), 0);
        }
        Expect.same("of a file", x.about(0, 4, 3), 7);
        x.seek(0, 4, 64, 0);
        Expect.same("the most", x.about(0, 4, 3), 64);
        x.seek(0, 4, 0, 0);
        Expect.same("the least", x.about(0, 4, 3), 0);
    }

    private static void positionsOfWhatWasAFile() {
        Desk x = Scenes.fileOf(9);
        x.open(0, 1, 1);
        x.seek(0, 3, 5, 0);
        x.close(0, 2);
        x.close(0, 3);
        x.pipe(0);
        Expect.same("an end that reads", x.about(0, 2, 3), 0);
        Expect.same("an end that writes", x.about(0, 3, 3), 0);
        Desk y = Scenes.fileOf(9);
        y.close(0, 2);
        y.spawn();
        Expect.same("the console", y.about(1, 0, 3), 0);
        Desk z = Scenes.fileOf(9);
        z.close(0, 2);
        z.open(0, 1, 3);
        Expect.same("a file, opened anew", z.about(0, 2, 3), 0);
    }

    private static void rights() {
        Desk x = allKinds();
        int[] due = {3, 3, 1, 2, 7};
        for (int d = 0; d < 5; d++) {
            Expect.same("of " + d, x.about(0, d, 4), due[d]);
        }
        for (int how : new int[] {9, 10, 11, 14, 15, 25, 42, 63}) {
            Desk y = Scenes.one();
            y.open(0, 9, how);
            Expect.same("of how " + how, y.about(0, 2, 4), how & 7);
        }
    }

    private static void aboutAnotherWhat() {
        for (int what : new int[] {Integer.MIN_VALUE, -1, 5, 6, Integer.MAX_VALUE}) {
            for (int d = 0; d < 8; d++) {
                Expect.same("what " + what + " of " + d, allKinds().about(0, d, what), -1);
                Expect.same("what " + what + " of an absent one", allKinds().about(1, d, what), -1);
            }
        }
    }

    private static void aboutOutside() {
        for (int out : OUTSIDE) {
            for (int what = -1; what <= 5; what++) {
                Expect.same("process " + out, allKinds().about(out, 0, what), -1);
                Expect.same("descriptor " + out, allKinds().about(0, out, what), -1);
                Expect.same("descriptor " + out + " of an absent one", allKinds().about(5, out, what), -1);
                Expect.same("both " + out, allKinds().about(out, out, what), -1);
            }
        }
    }

    private static void aboutNone() {
        Desk x = allKinds();
        x.close(0, 0);
        for (int d : new int[] {0, 5, 7}) {
            Expect.same("what 0", x.about(0, d, 0), 0);
            for (int what = 1; what <= 4; what++) {
                Expect.same("what " + what, x.about(0, d, what), -1);
            }
        }
    }

    private static void aboutAbsent() {
        Desk x = allKinds();
        x.fork(0);
        x.exit(0);
        for (int p : new int[] {0, 7}) {
            for (int d = 0; d < 8; d++) {
                Expect.same("what 0", x.about(p, d, 0), 0);
                for (int what = 1; what <= 4; what++) {
                    Expect.same("what " + what, x.about(p, d, what), -1);
                }
            }
        }
    }

    private static void aboutOneThatWaits() {
        Desk x = Scenes.readerAndWriter();
        x.read(0, 2, 1);
        Expect.same("kind", x.about(0, 2, 0), 1);
        Expect.same("descriptors", x.about(0, 2, 1), 1);
        Expect.same("bytes", x.about(0, 2, 2), 0);
        Expect.same("rights", x.about(0, 2, 4), 1);
    }

    // Promise 19

    private static void countProcesses() {
        Desk x = new Desk();
        for (int p = 0; p < 8; p++) {
            Expect.same("there", x.count(0), p);
            x.spawn();
        }
        for (int p = 0; p < 8; p++) {
            Expect.same("wait", x.count(1), p);
            x.read(p, 0, 1);
        }
        Expect.same("all are there", x.count(0), 8);
        Expect.same("all wait", x.count(1), 8);
        for (int p = 7; p >= 0; p--) {
            x.exit(p);
            Expect.same("there", x.count(0), p);
            Expect.same("wait", x.count(1), p);
        }
    }

    private static void countThatWaitToWrite() {
        Desk x = Scenes.pipeOf(32);
        for (int p = 1; p < 8; p++) {
            x.fork(0);
        }
        for (int p = 0; p < 8; p++) {
            x.write(p, 3, 0, 1);
            Expect.same("wait", x.count(1), p + 1);
        }
    }

    private static void countOpenings() {
        for (int n = 9; n <= 20; n++) {
            Expect.same("openings", Scenes.openings(n).count(2), n);
        }
        Expect.same("of six pipes and three consoles", Scenes.sixPipes().count(2), 15);
        Desk x = Scenes.openings(20);
        for (int p = 0; p < 4; p++) {
            x.exit(p);
        }
        Expect.same("none", x.count(2), 0);
    }

    private static void countPipes() {
        Desk x = Scenes.sixPipes();
        Expect.same("the most", x.count(3), 6);
        x.exit(1);
        Expect.same("three", x.count(3), 3);
        x.exit(2);
        Expect.same("none", x.count(3), 0);
    }

    private static void countFiles() {
        Desk x = Scenes.sixFiles();
        Expect.same("the most", x.count(4), 6);
        Expect.same("with names", x.count(5), 6);
        for (int name = 1; name <= 6; name++) {
            x.open(0, name, 1);
            x.unlink(0, name);
            Expect.same("held by openings", x.count(4), 6);
            Expect.same("with names", x.count(5), 6 - name);
        }
        for (int left = 5; left >= 0; left--) {
            x.close(0, 2 + left);
            Expect.same("files", x.count(4), left);
        }
    }

    private static void countBytesInPipes() {
        Desk x = Scenes.sixPipes();
        for (int p = 1; p <= 2; p++) {
            for (int i = 0; i < 3; i++) {
                for (int k = 0; k < 4; k++) {
                    x.write(p, 3 + 2 * i, 0, 8);
                }
            }
        }
        Expect.same("the most", x.count(6), 192);
        x.read(1, 2, 5);
        Expect.same("five less", x.count(6), 187);
        x.close(1, 4);
        Expect.same("held by one end", x.count(6), 187);
        x.close(1, 5);
        Expect.same("held by none", x.count(6), 155);
        x.exit(2);
        Expect.same("held by none", x.count(6), 59);
    }

    private static void countBytesThatWereShown() {
        Desk x = Scenes.one();
        for (int i = 0; i < 500; i++) {
            x.write(0, 1, i, 8);
        }
        Expect.same("more than are kept", x.count(7), 4000);
        x.exit(0);
        Expect.same("whoever is there", x.count(7), 4000);
    }

    private static void countAnother() {
        for (int what : new int[] {Integer.MIN_VALUE, -2, -1, 9, 10, Integer.MAX_VALUE}) {
            Expect.same("new: " + what, new Desk().count(what), -1);
            Expect.same("used: " + what, allKinds().count(what), -1);
        }
    }

    // Promise 19: in vain

    private static void vain(String what, Desk x, int due) {
        Expect.same(what, x.count(8), due);
    }

    private static void vainOfNone() {
        vain("new", new Desk(), 0);
        vain("ready", allKinds(), 0);
        Desk x = Scenes.processes(8);
        for (int p = 0; p < 8; p++) {
            x.read(p, 0, 1);
        }
        vain("all wait for the console", x, 0);
    }

    private static void vainForItself() {
        Desk x = Scenes.pipe();
        x.read(0, 2, 1);
        vain("to read", x, 1);
        Desk y = Scenes.pipeOf(32);
        y.write(0, 3, 0, 1);
        vain("to write", y, 1);
        Desk z = Scenes.pipeOf(25);
        z.write(0, 3, 0, 8);
        vain("to write, with too little room", z, 1);
    }

    private static void vainForAll() {
        Desk x = Scenes.pipe();
        for (int p = 1; p < 8; p++) {
            x.fork(0);
        }
        for (int p = 0; p < 8; p++) {
            vain("one may still write", x, 0);
            x.read(p, 2, 1);
        }
        vain("eight", x, 8);
        x.exit(3);
        vain("seven", x, 7);
    }

    private static void vainThoughOneOfTheSameSortIsReady() {
        Desk x = Scenes.pipe();
        x.fork(0);
        x.close(1, 3);
        x.read(0, 2, 1);
        vain("another reads, and is ready", x, 1);
        Desk y = Scenes.pipeOf(32);
        y.fork(0);
        y.close(1, 2);
        y.write(0, 3, 0, 1);
        vain("another writes, and is ready", y, 1);
    }

    private static void notVainWhileOneOfTheOtherSortIsReady() {
        Desk x = Scenes.pipe();
        x.fork(0);
        x.close(1, 2);
        x.read(0, 2, 1);
        vain("another writes", x, 0);
        x.read(1, 0, 1);
        vain("another writes, and waits for the console", x, 0);
        Desk y = Scenes.pipeOf(32);
        y.fork(0);
        y.close(1, 3);
        y.write(0, 3, 0, 1);
        vain("another reads", y, 0);
        y.read(1, 0, 1);
        vain("another reads, and waits for the console", y, 0);
    }

    /** Process p reads pipe p (at 2); process p + 1 alone writes into it; the last one is ready. */
    private static Desk chain(int pipes) {
        Desk x = Scenes.one();
        for (int p = 0; p < pipes; p++) {
            int ends = x.pipe(p);
            x.fork(p);
            x.close(p, ends / 8);
            x.close(p + 1, ends % 8);
            if (p > 0) {
                x.close(p + 1, 7);
            }
            x.dup(p + 1, ends / 8, 7);
            x.close(p + 1, ends / 8);
        }
        for (int p = 0; p < pipes; p++) {
            Expect.same("wait", x.read(p, 2, 1), -6);
        }
        return x;
    }

    private static void vainInAChain() {
        for (int pipes = 1; pipes <= 6; pipes++) {
            Desk x = chain(pipes);
            Expect.same("so many wait", x.count(1), pipes);
            vain("the last one is ready", x, 0);
            x.read(pipes, 0, 1);
            vain("the last one waits for the console", x, 0);
            if (pipes < 6) {
                x.type(9);
                x.pipe(pipes);
                Expect.same("wait", x.read(pipes, 2, 1), -6);
                vain("the last one waits for itself", x, pipes + 1);
            }
        }
    }

    private static void vainInARing() {
        Desk x = Scenes.pipe();
        x.pipe(0);
        x.fork(0);
        x.close(0, 3);
        x.close(0, 4);
        x.close(1, 2);
        x.close(1, 5);
        // 0 reads what 1 writes, and 1 reads what 0 writes.
        x.read(0, 2, 1);
        vain("one waits", x, 0);
        x.read(1, 4, 1);
        vain("each for the other", x, 2);
        Expect.same("exit", x.exit(0), 1);
        vain("none is left to wait for", x, 0);
    }

    private static void vainOneToReadOneToWrite() {
        Desk x = Scenes.pipe();
        x.pipe(0);
        Scenes.fillPipe(x, 0, 3, 32);
        x.fork(0);
        // 1 writes into the full pipe, which 0 reads; 0 reads the empty one, into which 1 writes.
        x.close(0, 3);
        x.close(0, 5);
        x.close(1, 2);
        x.close(1, 4);
        Expect.same("to write", x.write(1, 3, 0, 1), -6);
        vain("0 may read", x, 0);
        Expect.same("to read", x.read(0, 4, 1), -6);
        vain("each for the other", x, 2);
    }

    private static void vainSetsApart() {
        Desk x = Scenes.processes(4);
        x.pipe(1);
        x.pipe(3);
        x.fork(3);
        x.read(1, 2, 1);
        x.read(3, 2, 1);
        vain("1 alone", x, 1);
        x.read(4, 2, 1);
        vain("1, and 3 with 4", x, 3);
        x.read(0, 0, 1);
        vain("0 waits for the console", x, 3);
        Expect.same("waiting", x.count(1), 4);
    }

    private static void vainOfSeveralThatHoldTheOtherSort() {
        Desk x = Scenes.pipe();
        x.fork(0);
        x.fork(0);
        x.close(0, 3);
        x.pipe(2);
        x.read(0, 2, 1);
        x.read(1, 2, 1);
        vain("2 may write", x, 0);
        x.read(2, 4, 1);
        vain("all three", x, 3);
    }

    private static void notVainWhenWoken() {
        Desk x = Scenes.pipe();
        x.fork(0);
        x.read(0, 2, 1);
        x.write(1, 3, 9, 1);
        vain("woken", x, 0);
        x.read(1, 2, 1);
        x.read(1, 2, 1);
        vain("0 is ready", x, 0);
        x.read(0, 2, 1);
        vain("both wait anew", x, 2);
    }

    public static void main(String[] args) {
        Expect.sentence("18: 0 none, 1, 2, 3, 4", AboutAndCountEdgesTest::kinds);
        Expect.sentence("18: how many descriptors of all", AboutAndCountEdgesTest::howManyDescriptors);
        Expect.sentence("18: bytes that are in its pipe or file, or typed", AboutAndCountEdgesTest::bytesThatAreIn);
        Expect.sentence("18: position (0 but of a file)", AboutAndCountEdgesTest::positions);
        Expect.sentence("18: position of a new opening", AboutAndCountEdgesTest::positionsOfWhatWasAFile);
        Expect.sentence("18: rights (of ends 1, 2, of the console 3)", AboutAndCountEdgesTest::rights);
        Expect.sentence("18: -1 for another what", AboutAndCountEdgesTest::aboutAnotherWhat);
        Expect.sentence("18: for p or d that is not 0 .. 7", AboutAndCountEdgesTest::aboutOutside);
        Expect.sentence("18: for 1 .. 4 of a descriptor that is none", AboutAndCountEdgesTest::aboutNone);
        Expect.sentence("18: absent processes have none", AboutAndCountEdgesTest::aboutAbsent);
        Expect.sentence("18: of one that waits", AboutAndCountEdgesTest::aboutOneThatWaits);
        Expect.sentence("19: 0 processes that are there, 1 that wait", AboutAndCountEdgesTest::countProcesses);
        Expect.sentence("19: 1 that wait, to write", AboutAndCountEdgesTest::countThatWaitToWrite);
        Expect.sentence("19: 2 openings", AboutAndCountEdgesTest::countOpenings);
        Expect.sentence("19: 3 pipes", AboutAndCountEdgesTest::countPipes);
        Expect.sentence("19: 4 files, 5 files with names", AboutAndCountEdgesTest::countFiles);
        Expect.sentence("19: 6 bytes in all pipes", AboutAndCountEdgesTest::countBytesInPipes);
        Expect.sentence("19: 7 bytes that were shown in all", AboutAndCountEdgesTest::countBytesThatWereShown);
        Expect.sentence("19: -1 for others", AboutAndCountEdgesTest::countAnother);
        Expect.sentence("19: in vain: for a pipe", AboutAndCountEdgesTest::vainOfNone);
        Expect.sentence("19: in vain: held by itself", AboutAndCountEdgesTest::vainForItself);
        Expect.sentence("19: in vain: all", AboutAndCountEdgesTest::vainForAll);
        Expect.sentence("19: in vain: ends of the other sort", AboutAndCountEdgesTest::vainThoughOneOfTheSameSortIsReady);
        Expect.sentence("19: in vain: such processes alone", AboutAndCountEdgesTest::notVainWhileOneOfTheOtherSortIsReady);
        Expect.sentence("19: in vain: in a chain", AboutAndCountEdgesTest::vainInAChain);
        Expect.sentence("19: in vain: the most that may be so", AboutAndCountEdgesTest::vainInARing);
        Expect.sentence("19: in vain: to read and to write", AboutAndCountEdgesTest::vainOneToReadOneToWrite);
        Expect.sentence("19: in vain: sets apart", AboutAndCountEdgesTest::vainSetsApart);
        Expect.sentence("19: in vain: several hold the other sort", AboutAndCountEdgesTest::vainOfSeveralThatHoldTheOtherSort);
        Expect.sentence("19: in vain: no longer", AboutAndCountEdgesTest::notVainWhenWoken);
        Expect.finish();
    }
}
