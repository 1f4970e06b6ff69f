/** The edges of promise 9 (write) and of what the terms say of writing, a sentence each. */
public final class WriteEdgesTest {
    private static final int[] NO_DESCRIPTOR = {Integer.MIN_VALUE, -8, -1, 8, 9, Integer.MAX_VALUE};
    private static final int[] NO_AMOUNT = {Integer.MIN_VALUE, -1, 9, 16, Integer.MAX_VALUE};
    private static final long EIGHT = 0x8182838485868788L;

    private WriteEdgesTest() {
    }

    /** Looks at n bytes of file 1 from a place on, through an opening of its own. */
    private static void inFile(Desk x, int from, int n, long due) {
        int d = x.open(0, 1, 1);
        x.seek(0, d, from, 0);
        Expect.same("bytes in the file", x.read(0, d, n), n);
        Expect.same("bytes in the file", x.given(0), due);
        x.close(0, d);
    }

    // Which bytes

    private static void theLowestTheHighestFirst() {
        for (int n = 0; n <= 8; n++) {
            long due = n == 8 ? EIGHT : EIGHT & (1L << 8 * n) - 1;
            Desk x = Scenes.pipe();
            Expect.same("into a pipe", x.write(0, 3, EIGHT, n), n);
            Expect.same("read", x.read(0, 2, 8), n == 0 ? -6 : n);
            Expect.same("given", x.given(0), due);
            Desk y = Scenes.fileOf(0);
            Expect.same("into a file", y.write(0, 2, EIGHT, n), n);
            Expect.same("length", y.about(0, 2, 2), n);
            y.seek(0, 2, 0, 0);
            Expect.same("read", y.read(0, 2, 8), n);
            Expect.same("given", y.given(0), due);
            Desk z = Scenes.one();
            Expect.same("to the console", z.write(0, 1, EIGHT, n), n);
            for (int k = 0; k <= n; k++) {
                Expect.same("shown", z.shown(k), k == n ? -1 : 0x89 - n + k);
            }
        }
    }

    // Into a pipe

    private static void pipeHasRoomForThem() {
        for (int n = 1; n <= 8; n++) {
            int wanted = n;
            Desk x = Scenes.pipeOf(32 - n);
            Expect.same("just room for " + n, x.write(0, 3, EIGHT, n), n);
            Expect.same("full", x.about(0, 3, 2), 32);
            Expect.same("ready", x.state(0, 0), 1);
            Look.waits("no room for " + n, 0, 3, 3, n, () -> Scenes.pipeOf(33 - wanted), y -> y.write(0, 3, EIGHT, wanted));
            Look.waits("full, n " + n, 0, 3, 3, n, () -> Scenes.pipeOf(32), y -> y.write(0, 3, EIGHT, wanted));
        }
    }

    private static void pipeTakesAllOrNothing() {
        Desk x = Scenes.readerAndWriter();
        Scenes.fillPipe(x, 1, 3, 30);
        Expect.same("three", x.write(1, 3, 0x0A0B0C, 3), -6);
        Expect.same("none of them", x.about(0, 2, 2), 30);
        for (int i = 0; i < 29; i++) {
            x.read(0, 2, 1);
        }
        Expect.same("the last", x.read(0, 2, 8), 1);
        Expect.same("the last", x.given(0), 30);
    }

    private static void pipeOfNoBytes() {
        Look.unchanged("into an empty one", 0, Scenes::pipe, x -> x.write(0, 3, EIGHT, 0));
        Look.unchanged("into a full one", 0, () -> Scenes.pipeOf(32), x -> x.write(0, 3, EIGHT, 0));
    }

    private static Desk broken(int bytes) {
        Desk x = Scenes.pipeOf(bytes);
        x.close(0, 2);
        return x;
    }

    private static void brokenPipe() {
        for (int n = 0; n <= 8; n++) {
            int wanted = n;
            Look.refused("empty, n " + n, -5, () -> broken(0), x -> x.write(0, 3, EIGHT, wanted));
        }
        Look.refused("full, n 0", -5, () -> broken(32), x -> x.write(0, 3, EIGHT, 0));
        Look.refused("full, before WAIT", -5, () -> broken(32), x -> x.write(0, 3, EIGHT, 1));
        Look.refused("almost full", -5, () -> broken(30), x -> x.write(0, 3, EIGHT, 8));
    }

    private static void pipeThatAnotherReads() {
        Desk x = Scenes.pipe();
        x.fork(0);
        x.close(0, 2);
        Expect.same("a child reads it", x.write(0, 3, 1, 1), 1);
        x.dup(1, 2, 7);
        x.close(1, 2);
        Expect.same("by a copy", x.write(0, 3, 1, 1), 1);
        x.close(1, 7);
        Expect.same("none reads it", x.write(0, 3, 1, 1), -5);
    }

    // Into a file

    private static void fileAtThePosition() {
        Desk x = Scenes.fileOf(8);
        x.seek(0, 2, 3, 0);
        Expect.same("in it", x.write(0, 2, 0xA1A2, 2), 2);
        Expect.same("the position is behind them", x.about(0, 2, 3), 5);
        Expect.same("the length stays", x.about(0, 2, 2), 8);
        inFile(x, 0, 8, 0x010203A1A2060708L);
    }

    private static void fileOverItsEnd() {
        Desk x = Scenes.fileOf(5);
        x.seek(0, 2, 4, 0);
        Expect.same("over its end", x.write(0, 2, 0xA1A2A3, 3), 3);
        Expect.same("length", x.about(0, 2, 2), 7);
        inFile(x, 0, 7, 0x01020304A1A2A3L);
        Desk y = Scenes.fileOf(5);
        y.seek(0, 2, 3, 0);
        y.write(0, 2, 0xA1A2, 2);
        Expect.same("just up to its end", y.about(0, 2, 2), 5);
    }

    private static void fileWithZerosBetween() {
        for (int gap : new int[] {0, 1, 5}) {
            Desk x = Scenes.fileOf(2);
            x.seek(0, 2, 2 + gap, 0);
            Expect.same("behind its end", x.write(0, 2, 0xFF, 1), 1);
            Expect.same("length", x.about(0, 2, 2), 3 + gap);
            Expect.same("position", x.about(0, 2, 3), 3 + gap);
            inFile(x, 0, 3 + gap, 0x0102L << 8 * (gap + 1) | 0xFF);
        }
        Desk y = Scenes.fileOf(0);
        y.seek(0, 2, 63, 0);
        Expect.same("the last place of an empty one", y.write(0, 2, 0xFF, 1), 1);
        Expect.same("length", y.about(0, 2, 2), 64);
        inFile(y, 56, 8, 0xFF);
    }

    private static void zerosWhereAnotherFileWas() {
        Desk x = Scenes.fileOf(16);
        x.close(0, 2);
        x.unlink(0, 1);
        x.open(0, 1, 11);
        x.seek(0, 2, 7, 0);
        x.write(0, 2, 0xEE, 1);
        inFile(x, 0, 8, 0xEE);
    }

    private static void fileThatWouldBeTooLong() {
        for (int n = 1; n <= 8; n++) {
            int wanted = n;
            Look.refused("at the position, n " + n, -7, () -> {
                Desk x = Scenes.fileOf(3);
                x.seek(0, 2, 65 - wanted, 0);
                return x;
            }, x -> x.write(0, 2, EIGHT, wanted));
            Look.refused("a full one, n " + n, -7, () -> Scenes.fileOf(64), x -> x.write(0, 2, EIGHT, wanted));
            Desk y = Scenes.fileOf(3);
            y.seek(0, 2, 64 - n, 0);
            Expect.same("just not too long", y.write(0, 2, EIGHT, n), n);
            Expect.same("length", y.about(0, 2, 2), 64);
            Expect.same("position", y.about(0, 2, 3), 64);
            Desk z = Scenes.fileOf(64);
            z.seek(0, 2, 64 - n, 0);
            Expect.same("a full one, in it", z.write(0, 2, EIGHT, n), n);
            Expect.same("length", z.about(0, 2, 2), 64);
        }
    }

    private static Desk appending(int bytes) {
        Desk x = Scenes.fileOf(bytes);
        x.open(0, 1, 7);
        return x;
    }

    private static void appendsAtItsEnd() {
        for (int at : new int[] {0, 1, 3, 4, 64}) {
            Desk x = appending(3);
            x.seek(0, 3, at, 0);
            Expect.same("from " + at, x.write(0, 3, 0xA1A2, 2), 2);
            Expect.same("length", x.about(0, 3, 2), 5);
            Expect.same("position", x.about(0, 3, 3), 5);
            Expect.same("the other's position", x.about(0, 2, 3), 3);
            x.seek(0, 2, 0, 0);
            x.read(0, 2, 8);
            Expect.same("bytes", x.given(0), 0x010203A1A2L);
        }
    }

    private static void appendsWhatWouldBeTooLong() {
        for (int n = 1; n <= 8; n++) {
            int wanted = n;
            Look.refused("n " + n, -7, () -> appending(65 - wanted), x -> x.write(0, 3, EIGHT, wanted));
            Desk x = appending(64 - n);
            Expect.same("just not too long", x.write(0, 3, EIGHT, n), n);
            Expect.same("position", x.about(0, 3, 3), 64);
        }
    }

    private static void fileOfNoBytes() {
        for (int at : new int[] {0, 2, 3, 4, 64}) {
            Look.unchanged("at " + at, 0, () -> {
                Desk x = Scenes.fileOf(3);
                x.seek(0, 2, at, 0);
                return x;
            }, x -> x.write(0, 2, EIGHT, 0));
            Look.unchanged("appending, at " + at, 0, () -> {
                Desk x = appending(3);
                x.seek(0, 3, at, 0);
                return x;
            }, x -> x.write(0, 3, EIGHT, 0));
        }
        Look.unchanged("a full one", 0, () -> Scenes.fileOf(64), x -> x.write(0, 2, EIGHT, 0));
        Look.unchanged("appending to a full one", 0, () -> appending(64), x -> x.write(0, 3, EIGHT, 0));
    }

    // To the console

    private static void consoleShowsAll() {
        Desk x = Scenes.one();
        Look.unchanged("n 0", 0, Scenes::one, y -> y.write(0, 0, EIGHT, 0));
        for (int i = 1; i <= 30; i++) {
            Expect.same("never full", x.write(0, i % 2, EIGHT, 8), 8);
            Expect.same("in all", x.count(7), 8 * i);
        }
        Expect.same("ready", x.state(0, 0), 1);
        Expect.same("nothing is typed by it", x.about(0, 0, 2), 0);
    }

    // Promise 9

    private static Desk allKinds() {
        Desk x = Scenes.pipe();
        x.open(0, 1, 1 | 8);
        x.write(0, 3, 1, 1);
        x.type(1);
        return x;
    }

    private static void bad() {
        for (int n : new int[] {0, 1, 8}) {
            for (int d : NO_DESCRIPTOR) {
                Look.refused("descriptor " + d, -1, WriteEdgesTest::allKinds, x -> x.write(0, d, EIGHT, n));
            }
            Look.refused("none", -1, WriteEdgesTest::allKinds, x -> x.write(0, 5, EIGHT, n));
            Look.refused("an end that reads", -1, WriteEdgesTest::allKinds, x -> x.write(0, 2, EIGHT, n));
            Look.refused("a file to read", -1, WriteEdgesTest::allKinds, x -> x.write(0, 4, EIGHT, n));
        }
        Desk y = Scenes.fileOf(64);
        y.open(0, 1, 1);
        y.seek(0, 3, 64, 0);
        Expect.same("bad before room", y.write(0, 3, EIGHT, 8), -1);
        Desk z = Scenes.pipeOf(32);
        Expect.same("bad before wait", z.write(0, 2, EIGHT, 8), -1);
        z.close(0, 3);
        Expect.same("an end that reads, though none writes", z.write(0, 2, EIGHT, 8), -1);
    }

    private static void amountIsInItsRange() {
        for (int n : NO_AMOUNT) {
            for (int d = -1; d <= 8; d++) {
                int to = d;
                Expect.argument("write to " + d + ", n " + n, () -> allKinds().write(0, to, EIGHT, n));
            }
            Look.throwsArgument("into a pipe, n " + n, WriteEdgesTest::allKinds, x -> x.write(0, 3, EIGHT, n));
            Look.throwsArgument("to the console, n " + n, WriteEdgesTest::allKinds, x -> x.write(0, 0, EIGHT, n));
            Look.throwsArgument("broken, n " + n, () -> broken(0), x -> x.write(0, 3, EIGHT, n));
        }
    }

    private static void absentOrWaiting() {
        Desk x = Scenes.pipeOf(32);
        x.write(0, 3, EIGHT, 5);
        for (int n : new int[] {0, 1, 8, -1, 9}) {
            Expect.state("waiting", () -> x.write(0, 3, EIGHT, n));
            Expect.state("waiting, another descriptor", () -> x.write(0, 0, EIGHT, n));
            Expect.state("waiting, none", () -> x.write(0, 9, EIGHT, n));
            Expect.state("absent", () -> x.write(1, 0, EIGHT, n));
            Expect.state("no process", () -> x.write(-1, 0, EIGHT, n));
            Expect.state("no process", () -> x.write(8, 0, EIGHT, n));
        }
        Expect.same("it waits as before", x.state(0, 1), 3);
        Expect.same("it waits as before", x.state(0, 2), 5);
        Expect.same("nothing was shown", x.count(7), 0);
    }

    public static void main(String[] args) {
        Expect.sentence("9: the n lowest bytes, the highest of these first", WriteEdgesTest::theLowestTheHighestFirst);
        Expect.sentence("Terms: all, if it has room for them, else WAIT", WriteEdgesTest::pipeHasRoomForThem);
        Expect.sentence("Terms: all, or none", WriteEdgesTest::pipeTakesAllOrNothing);
        Expect.sentence("Terms: into a pipe: n 0: 0 always", WriteEdgesTest::pipeOfNoBytes);
        Expect.sentence("Terms: unless broken; BROKEN before WAIT", WriteEdgesTest::brokenPipe);
        Expect.sentence("Terms: BROKEN: that no opening reads", WriteEdgesTest::pipeThatAnotherReads);
        Expect.sentence("Terms: into a file: at the position", WriteEdgesTest::fileAtThePosition);
        Expect.sentence("Terms: into a file: over its end", WriteEdgesTest::fileOverItsEnd);
        Expect.sentence("Terms: with 0 between its end and them", WriteEdgesTest::fileWithZerosBetween);
        Expect.sentence("Terms: with 0, whatever was there before", WriteEdgesTest::zerosWhereAnotherFileWas);
        Expect.sentence("Terms: ROOM: a file would be too long", WriteEdgesTest::fileThatWouldBeTooLong);
        Expect.sentence("Terms: appending, at its end, which it becomes first", WriteEdgesTest::appendsAtItsEnd);
        Expect.sentence("Terms: ROOM, appending", WriteEdgesTest::appendsWhatWouldBeTooLong);
        Expect.sentence("Terms: n 0: nothing changes, nor does the position", WriteEdgesTest::fileOfNoBytes);
        Expect.sentence("Terms: to the console: all are shown", WriteEdgesTest::consoleShowsAll);
        Expect.sentence("9: BAD (or no right)", WriteEdgesTest::bad);
        Expect.sentence("9: Throws as read: n is not 0 .. 8", WriteEdgesTest::amountIsInItsRange);
        Expect.sentence("9: Throws as read: IllegalStateException", WriteEdgesTest::absentOrWaiting);
        Expect.finish();
    }
}
