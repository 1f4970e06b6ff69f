/** The edges of promises 7 and 8 (read, given) and of what the terms say of reading, a sentence each. */
public final class ReadEdgesTest {
    private static final int[] NO_DESCRIPTOR = {Integer.MIN_VALUE, -8, -1, 8, 9, Integer.MAX_VALUE};
    private static final int[] NO_AMOUNT = {Integer.MIN_VALUE, -1, 9, 16, Integer.MAX_VALUE};

    private ReadEdgesTest() {
    }

    /** The bytes first, first + 1, first + 2 .., as given() tells them. */
    private static long row(int first, int n) {
        long bytes = 0;
        for (int i = 0; i < n; i++) {
            bytes = bytes << 8 | (first + i);
        }
        return bytes;
    }

    private static void reads(Desk x, int d, int n, int first, int due) {
        Expect.same("read " + n, x.read(0, d, n), due);
        Expect.same("given", x.given(0), row(first, due));
    }

    private static Desk typed(int... bytes) {
        Desk x = Scenes.one();
        for (int b : bytes) {
            x.type(b);
        }
        return x;
    }

    // Of a pipe

    private static void pipeGivesAtMostN() {
        for (int n = 1; n <= 8; n++) {
            Desk x = Scenes.pipeOf(20);
            reads(x, 2, n, 1, n);
            Expect.same("the rest", x.about(0, 2, 2), 20 - n);
            reads(x, 2, n, 1 + n, n);
        }
    }

    private static void pipeGivesAsManyAsThereAre() {
        for (int bytes = 1; bytes <= 8; bytes++) {
            Desk x = Scenes.pipeOf(bytes);
            reads(x, 2, 8, 1, bytes);
            Expect.same("nothing is left", x.about(0, 2, 2), 0);
            Expect.same("the next one waits", x.read(0, 2, 8), -6);
        }
    }

    private static void pipeWithoutAnyAndWithoutAWriter() {
        Desk x = Scenes.pipeOf(2);
        x.close(0, 3);
        reads(x, 2, 1, 1, 1);
        reads(x, 2, 8, 2, 1);
        for (int n = 0; n <= 8; n++) {
            Expect.same("nothing is to come", x.read(0, 2, n), 0);
            Expect.same("given", x.given(0), 0);
        }
        Expect.same("ready", x.state(0, 0), 1);
    }

    private static void pipeWithoutAnyWaits() {
        for (int n = 1; n <= 8; n++) {
            int wanted = n;
            Look.waits("its own end writes, n " + n, 0, 2, 2, n, Scenes::pipe, x -> x.read(0, 2, wanted));
            Look.waits("another's writes, n " + n, 0, 2, 2, n, Scenes::readerAndWriter, x -> x.read(0, 2, wanted));
        }
    }

    private static void pipeOfNoBytes() {
        Desk x = Scenes.pipe();
        Expect.same("of an empty one", x.read(0, 2, 0), 0);
        Expect.same("ready", x.state(0, 0), 1);
        x.write(0, 3, 7, 1);
        Expect.same("of another", x.read(0, 2, 0), 0);
        Expect.same("it takes nothing", x.about(0, 2, 2), 1);
    }

    private static void pipeGoesRound() {
        Desk x = Scenes.pipeOf(32);
        int first = 1;
        int next = 33;
        // Seven out, seven in: the 32 are round the end of any row that has 32 or 64 places.
        for (int i = 0; i < 20; i++) {
            reads(x, 2, 7, first, 7);
            first += 7;
            Expect.same("write", x.write(0, 3, row(next, 7), 7), 7);
            next += 7;
            Expect.same("full", x.about(0, 2, 2), 32);
        }
        for (int i = 0; i < 4; i++) {
            reads(x, 2, 8, first, 8);
            first += 8;
        }
        Expect.same("empty", x.about(0, 2, 2), 0);
    }

    // Of a file

    private static void fileFromThePositionOn() {
        for (int at = 0; at <= 12; at++) {
            Desk x = Scenes.fileOf(12);
            x.seek(0, 2, at, 0);
            int due = Math.min(8, 12 - at);
            reads(x, 2, 8, at + 1, due);
            Expect.same("position", x.about(0, 2, 3), at + due);
        }
    }

    private static void fileAtMostN() {
        for (int n = 0; n <= 8; n++) {
            Desk x = Scenes.fileOf(20);
            x.seek(0, 2, 3, 0);
            reads(x, 2, n, 4, n);
            Expect.same("position", x.about(0, 2, 3), 3 + n);
        }
    }

    private static void fileAtItsEnd() {
        for (int bytes : new int[] {0, 1, 63, 64}) {
            Desk x = Scenes.fileOf(bytes);
            Expect.same("read", x.read(0, 2, 8), 0);
            Expect.same("given", x.given(0), 0);
            Expect.same("position", x.about(0, 2, 3), bytes);
            Expect.same("ready", x.state(0, 0), 1);
        }
    }

    private static void fileBehindItsEnd() {
        for (int at : new int[] {4, 5, 12, 63, 64}) {
            Desk x = Scenes.fileOf(3);
            x.seek(0, 2, at, 0);
            Expect.same("read at " + at, x.read(0, 2, 8), 0);
            Expect.same("the position stays", x.about(0, 2, 3), at);
            Expect.same("the file is no longer", x.about(0, 2, 2), 3);
        }
    }

    private static void fileThatIsFull() {
        Desk x = Scenes.fileOf(64);
        x.seek(0, 2, 0, 0);
        for (int i = 0; i < 8; i++) {
            reads(x, 2, 8, 1 + 8 * i, 8);
        }
        Expect.same("no more", x.read(0, 2, 8), 0);
        x.seek(0, 2, 60, 0);
        reads(x, 2, 8, 61, 4);
        Expect.same("position", x.about(0, 2, 3), 64);
    }

    private static void fileReadByAnAppendingOne() {
        Desk x = Scenes.fileOf(12);
        x.open(0, 1, 7);
        reads(x, 3, 5, 1, 5);
        x.write(0, 3, 99, 1);
        Expect.same("behind what was written", x.read(0, 3, 8), 0);
    }

    // Of the console

    private static void consoleWaits() {
        for (int n = 1; n <= 8; n++) {
            int wanted = n;
            Look.waits("n " + n, 0, 2, 1, n, Scenes::one, x -> x.read(0, 1, wanted));
        }
        Look.waits("though no other reads or writes", 0, 2, 0, 1, () -> {
            Desk x = Scenes.one();
            x.close(0, 1);
            return x;
        }, x -> x.read(0, 0, 1));
    }

    private static void consoleGivesAtMostN() {
        for (int n = 1; n <= 8; n++) {
            Desk x = typed(11, 12, 13, 14, 15, 16, 17, 18, 19);
            reads(x, 0, n, 11, n);
            Expect.same("the rest", x.about(0, 0, 2), 9 - n);
        }
        Desk y = typed(11, 12);
        reads(y, 0, 8, 11, 2);
    }

    private static void whatIsBehindAnEndStays() {
        Desk x = typed(11, 12, 4, 13, 14);
        reads(x, 0, 8, 11, 2);
        Expect.same("two are behind it", x.about(0, 0, 2), 2);
        reads(x, 0, 8, 13, 2);
    }

    private static void anEndThatIsTheFirst() {
        for (int n = 1; n <= 8; n++) {
            Desk x = typed(4, 11);
            Expect.same("read " + n, x.read(0, 0, n), 0);
            Expect.same("given", x.given(0), 0);
            Expect.same("it is taken", x.about(0, 0, 2), 1);
            Expect.same("ready", x.state(0, 0), 1);
            reads(x, 0, n, 11, 1);
        }
    }

    private static void anEndThatIsTheLast() {
        Desk x = typed(11, 4);
        reads(x, 0, 2, 11, 1);
        Expect.same("it is taken", x.about(0, 0, 2), 0);
        Expect.same("then it waits", x.read(0, 0, 2), -6);
    }

    private static void anEndBehindNBytes() {
        Desk x = typed(11, 12, 4, 13);
        reads(x, 0, 2, 11, 2);
        Expect.same("it isn't looked at", x.about(0, 0, 2), 2);
        Expect.same("it is the first now", x.read(0, 0, 2), 0);
        reads(x, 0, 2, 13, 1);
        Desk y = typed(11, 12, 13, 14, 15, 16, 17, 18, 4);
        reads(y, 0, 8, 11, 8);
        Expect.same("behind eight", y.about(0, 0, 2), 1);
    }

    private static void endsOneBehindTheOther() {
        Desk x = typed(4, 4, 4);
        for (int left = 2; left >= 0; left--) {
            Expect.same("read", x.read(0, 0, 8), 0);
            Expect.same("one is taken", x.about(0, 0, 2), left);
        }
    }

    private static void consoleOfNoBytes() {
        Look.unchanged("an end is the first", 0, () -> typed(4, 11), x -> x.read(0, 0, 0));
        Look.unchanged("another is the first", 0, () -> typed(11, 4), x -> x.read(0, 0, 0));
        Desk x = Scenes.one();
        Expect.same("nothing was typed", x.read(0, 0, 0), 0);
        Expect.same("ready", x.state(0, 0), 1);
    }

    private static void nearTheEndByte() {
        Desk x = typed(3, 5, 0, 255, 68, 132);
        Expect.same("no other byte is an end", x.read(0, 0, 8), 6);
        Expect.same("given", x.given(0), 0x030500FF4484L);
    }

    // Promise 7

    private static Desk allKinds() {
        Desk x = Scenes.pipe();
        x.open(0, 1, 2 | 8);
        x.open(0, 1, 6);
        x.write(0, 3, 1, 1);
        x.write(0, 4, 1, 1);
        x.type(1);
        return x;
    }

    private static void bad() {
        for (int n : new int[] {0, 1, 8}) {
            for (int d : NO_DESCRIPTOR) {
                Look.refused("descriptor " + d, -1, ReadEdgesTest::allKinds, x -> x.read(0, d, n));
            }
            Look.refused("none", -1, ReadEdgesTest::allKinds, x -> x.read(0, 6, n));
            Look.refused("an end that writes", -1, ReadEdgesTest::allKinds, x -> x.read(0, 3, n));
            Look.refused("a file to write", -1, ReadEdgesTest::allKinds, x -> x.read(0, 4, n));
            Look.refused("a file to append to", -1, ReadEdgesTest::allKinds, x -> x.read(0, 5, n));
        }
    }

    private static void amountIsInItsRange() {
        for (int n : NO_AMOUNT) {
            for (int d = -1; d <= 8; d++) {
                int of = d;
                Expect.argument("read of " + d + ", n " + n, () -> allKinds().read(0, of, n));
            }
            Look.throwsArgument("of a pipe, n " + n, ReadEdgesTest::allKinds, x -> x.read(0, 2, n));
            Look.throwsArgument("of the console, n " + n, ReadEdgesTest::allKinds, x -> x.read(0, 0, n));
        }
    }

    private static void absentOrWaiting() {
        Desk x = Scenes.pipe();
        x.read(0, 2, 1);
        for (int n : new int[] {0, 1, 8, -1, 9}) {
            Expect.state("waiting", () -> x.read(0, 2, n));
            Expect.state("waiting, another descriptor", () -> x.read(0, 0, n));
            Expect.state("waiting, none", () -> x.read(0, 9, n));
            Expect.state("absent", () -> x.read(1, 0, n));
            Expect.state("no process", () -> x.read(-1, 0, n));
            Expect.state("no process", () -> x.read(8, 0, n));
        }
        Expect.same("it waits as before", x.state(0, 1), 2);
        Expect.same("it waits as before", x.state(0, 2), 1);
    }

    // Promise 8

    private static void theFirstOneHighest() {
        Desk x = Scenes.pipe();
        for (int n = 1; n <= 8; n++) {
            x.write(0, 3, 0x8182838485868788L, n);
            x.read(0, 2, 8);
            Expect.same("of " + n, x.given(0), row(0x89 - n, n));
        }
    }

    private static void bytesAtTheirLimits() {
        long[] rows = {0L, -1L, Long.MIN_VALUE, Long.MAX_VALUE, 0xFFL, 0x00FF00FF00FF00FFL, 0xFF00FF00FF00FF00L};
        Desk x = Scenes.pipe();
        x.open(0, 1, 11);
        for (long bytes : rows) {
            x.write(0, 3, bytes, 8);
            Expect.same("read", x.read(0, 2, 8), 8);
            Expect.same("of a pipe", x.given(0), bytes);
            x.seek(0, 4, 0, 0);
            x.write(0, 4, bytes, 8);
            x.seek(0, 4, 0, 0);
            Expect.same("read", x.read(0, 4, 8), 8);
            Expect.same("of a file", x.given(0), bytes);
        }
        x.type(0);
        x.type(255);
        x.type(0);
        Expect.same("read", x.read(0, 0, 8), 3);
        Expect.same("of the console", x.given(0), 0x00FF00);
    }

    private static Desk given(long bytes) {
        Desk x = Scenes.pipe();
        x.write(0, 3, bytes, 8);
        x.read(0, 2, 8);
        return x;
    }

    private static void zeroBehindOneOfNoBytes() {
        Desk x = given(77);
        x.read(0, 2, 0);
        Expect.same("n 0 of a pipe", x.given(0), 0);
        x = given(77);
        x.close(0, 3);
        x.read(0, 2, 8);
        Expect.same("nothing is to come", x.given(0), 0);
        x = given(77);
        x.open(0, 1, 9);
        x.read(0, 4, 8);
        Expect.same("a file's end", x.given(0), 0);
        x = given(77);
        x.type(4);
        x.read(0, 0, 8);
        Expect.same("the console's end", x.given(0), 0);
        x = given(77);
        x.read(0, 0, 0);
        Expect.same("n 0 of the console", x.given(0), 0);
    }

    private static void onlyReadsThatAnswered() {
        Desk x = given(-77);
        Expect.same("bad", x.read(0, 3, 1), -1);
        Expect.same("behind bad", x.given(0), -77);
        Expect.argument("n", () -> x.read(0, 2, 9));
        Expect.same("behind a wrong n", x.given(0), -77);
        x.write(0, 3, 5, 1);
        x.write(0, 1, 5, 1);
        Expect.same("behind writing", x.given(0), -77);
        x.read(0, 0, 1);
        Expect.same("while it waits", x.given(0), -77);
        Expect.state("waiting", () -> x.read(0, 2, 1));
        x.type(65);
        Expect.same("woken, before it asks anew", x.given(0), -77);
        x.read(0, 0, 1);
        Expect.same("behind the next one", x.given(0), 65);
    }

    private static void aLaterOneOfFewerBytes() {
        Desk x = given(-1);
        x.write(0, 3, 5, 1);
        x.read(0, 2, 8);
        Expect.same("nothing of the former", x.given(0), 5);
    }

    private static void before() {
        Desk x = Scenes.processes(8);
        for (int p = 0; p < 8; p++) {
            Expect.same("a spawned one", x.given(p), 0);
        }
        Desk y = given(77);
        y.fork(0);
        Expect.same("a child", y.given(1), 0);
        Expect.same("its parent", y.given(0), 77);
        y.exit(0);
        y.fork(1);
        Expect.same("a child with the parent's number", y.given(0), 0);
    }

    private static void absent() {
        Desk x = given(77);
        x.exit(0);
        Expect.same("one that was there", x.given(0), 0);
        for (int p : new int[] {Integer.MIN_VALUE, -8, -1, 1, 7, 8, 9, Integer.MAX_VALUE}) {
            Expect.same("given of " + p, given(77).given(p), 0);
        }
    }

    public static void main(String[] args) {
        Expect.sentence("Terms: of a pipe: at most n", ReadEdgesTest::pipeGivesAtMostN);
        Expect.sentence("Terms: of a pipe: as many as there are", ReadEdgesTest::pipeGivesAsManyAsThereAre);
        Expect.sentence("Terms: without any: 0, if no opening writes", ReadEdgesTest::pipeWithoutAnyAndWithoutAWriter);
        Expect.sentence("Terms: without any: else WAIT", ReadEdgesTest::pipeWithoutAnyWaits);
        Expect.sentence("Terms: of a pipe: n 0: 0 always", ReadEdgesTest::pipeOfNoBytes);
        Expect.sentence("Terms: that go out as they came in", ReadEdgesTest::pipeGoesRound);
        Expect.sentence("Terms: of a file: from the position on", ReadEdgesTest::fileFromThePositionOn);
        Expect.sentence("Terms: of a file: at most n, and it becomes so many more", ReadEdgesTest::fileAtMostN);
        Expect.sentence("Terms: of a file: at its end", ReadEdgesTest::fileAtItsEnd);
        Expect.sentence("Terms: of a file: behind its end", ReadEdgesTest::fileBehindItsEnd);
        Expect.sentence("Terms: A FILE has up to 64 bytes", ReadEdgesTest::fileThatIsFull);
        Expect.sentence("Terms: of a file: appending", ReadEdgesTest::fileReadByAnAppendingOne);
        Expect.sentence("Terms: of the console: while nothing was typed WAIT", ReadEdgesTest::consoleWaits);
        Expect.sentence("Terms: of the console: as of a pipe", ReadEdgesTest::consoleGivesAtMostN);
        Expect.sentence("Terms: what is behind it stays", ReadEdgesTest::whatIsBehindAnEndStays);
        Expect.sentence("Terms: also when it is the first", ReadEdgesTest::anEndThatIsTheFirst);
        Expect.sentence("Terms: it is taken and not given", ReadEdgesTest::anEndThatIsTheLast);
        Expect.sentence("Terms: behind n bytes it isn't looked at", ReadEdgesTest::anEndBehindNBytes);
        Expect.sentence("Terms: byte 4 is an END, each one", ReadEdgesTest::endsOneBehindTheOther);
        Expect.sentence("Terms: n 0 takes nothing", ReadEdgesTest::consoleOfNoBytes);
        Expect.sentence("Terms: byte 4, and no other", ReadEdgesTest::nearTheEndByte);
        Expect.sentence("7: BAD (or no right)", ReadEdgesTest::bad);
        Expect.sentence("7: n is not 0 .. 8", ReadEdgesTest::amountIsInItsRange);
        Expect.sentence("7: IllegalStateException as said; else", ReadEdgesTest::absentOrWaiting);
        Expect.sentence("8: the first one highest", ReadEdgesTest::theFirstOneHighest);
        Expect.sentence("8: Bytes are 0 .. 255", ReadEdgesTest::bytesAtTheirLimits);
        Expect.sentence("8: 0 behind one of no bytes", ReadEdgesTest::zeroBehindOneOfNoBytes);
        Expect.sentence("8: latest read that answered 0 or more", ReadEdgesTest::onlyReadsThatAnswered);
        Expect.sentence("8: the bytes of the latest, no others", ReadEdgesTest::aLaterOneOfFewerBytes);
        Expect.sentence("8: and before (a child begins so)", ReadEdgesTest::before);
        Expect.sentence("8: and for one that is absent", ReadEdgesTest::absent);
        Expect.finish();
    }
}
