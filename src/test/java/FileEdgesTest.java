/** The edges of promises 5, 12, 13 and 14 (open, seek, unlink, rename), a sentence each. */
public final class FileEdgesTest {
    private static final int[] NO_NAME = {Integer.MIN_VALUE, -1, 0, 10, Integer.MAX_VALUE};
    private static final int[] NO_FILE_AT = {Integer.MIN_VALUE, -1, 0, 1, 3, 4, 5, 7, 8, Integer.MAX_VALUE};

    private FileEdgesTest() {
    }

    // Promise 5

    private static void opensTheLeastDescriptor() {
        Desk x = Scenes.noDescriptorFree();
        for (int d : new int[] {7, 4, 0}) {
            x.close(0, d);
        }
        for (int d : new int[] {0, 4, 7}) {
            Expect.same("open", x.open(0, 1, 1), d);
        }
        Expect.same("no more", x.open(0, 1, 1), -4);
    }

    private static void opensAtTheBeginning() {
        Desk x = Scenes.fileOf(3);
        Expect.same("appending too", x.open(0, 1, 7), 3);
        Expect.same("position", x.about(0, 3, 3), 0);
        Expect.same("the other's", x.about(0, 2, 3), 3);
    }

    private static void needsAWayToUseIt() {
        for (int how : new int[] {4, 8, 12, 16, 24, 28, 32, 40, 56, 60}) {
            Look.throwsArgument("how " + how, () -> Scenes.fileOf(3), x -> x.open(0, 1, how));
        }
        Expect.same("1", Scenes.fileOf(3).open(0, 1, 1), 3);
        Expect.same("2", Scenes.fileOf(3).open(0, 1, 2), 3);
        Expect.same("3", Scenes.fileOf(3).open(0, 1, 3), 3);
    }

    private static void appendsOnlyToWrite() {
        for (int how : new int[] {5, 5 | 8, 5 | 8 | 16}) {
            Look.throwsArgument("how " + how, () -> Scenes.fileOf(3), x -> x.open(0, 1, how));
        }
        for (int how : new int[] {6, 7, 6 | 8, 6 | 32}) {
            Desk x = Scenes.fileOf(3);
            Expect.same("how " + how, x.open(0, 1, how), 3);
            Expect.same("rights of how " + how, x.about(0, 3, 4), how & 7);
        }
    }

    private static void mustBeMissingOnlyIfItMakes() {
        for (int how : new int[] {17, 18, 19, 22, 23, 50, 55}) {
            Look.throwsArgument("how " + how, () -> Scenes.fileOf(3), x -> x.open(0, 2, how));
        }
        for (int how : new int[] {25, 26, 27, 30, 31, 58, 63}) {
            Expect.same("how " + how, Scenes.fileOf(3).open(0, 2, how), 3);
        }
    }

    private static void emptiesOnlyToWrite() {
        for (int how : new int[] {33, 33 | 8, 33 | 8 | 16}) {
            Look.throwsArgument("how " + how, () -> Scenes.fileOf(3), x -> x.open(0, 1, how));
        }
        for (int how : new int[] {34, 35, 38, 39, 42, 47}) {
            Desk x = Scenes.fileOf(3);
            Expect.same("how " + how, x.open(0, 1, how), 3);
            Expect.same("bytes", x.about(0, 3, 2), 0);
        }
    }

    private static void howIsInItsRange() {
        for (int how : new int[] {Integer.MIN_VALUE, Integer.MIN_VALUE | 3, -64 + 3, -1, 0, 64, 65, 66, 127, 1025,
                Integer.MAX_VALUE}) {
            Look.throwsArgument("how " + how, () -> Scenes.fileOf(3), x -> x.open(0, 1, how));
        }
        Desk x = Scenes.one();
        Expect.same("the least", Scenes.fileOf(1).open(0, 1, 1), 3);
        Expect.same("the most", x.open(0, 1, 63), 2);
        Expect.same("its rights", x.about(0, 2, 4), 7);
    }

    private static void everyHow() {
        for (int how = 1; how <= 63; how++) {
            boolean fine = (how & 3) != 0 && ((how & 36) == 0 || (how & 2) != 0) && ((how & 16) == 0 || (how & 8) != 0);
            int way = how;
            Desk x = Scenes.fileOf(3);
            Desk y = Scenes.fileOf(3);
            if (!fine) {
                Expect.argument("how " + how, () -> x.open(0, 1, way));
                Expect.argument("how " + how + " of a missing one", () -> y.open(0, 2, way));
                continue;
            }
            Expect.same("how " + how, x.open(0, 1, how), (how & 16) != 0 ? -3 : 3);
            Expect.same("bytes behind how " + how, x.about(0, 2, 2), (how & 48) == 32 ? 0 : 3);
            Expect.same("how " + how + " of a missing one", y.open(0, 2, how), (how & 8) != 0 ? 3 : -2);
            Expect.same("files behind how " + how, y.count(5), (how & 8) != 0 ? 2 : 1);
        }
    }

    private static void nameIsInItsRange() {
        for (int name : NO_NAME) {
            Look.throwsArgument("name " + name, () -> Scenes.fileOf(3), x -> x.open(0, name, 9));
            Look.throwsArgument("name " + name + " to read", () -> Scenes.fileOf(3), x -> x.open(0, name, 1));
        }
        Expect.same("the least", Scenes.one().open(0, 1, 9), 2);
        Expect.same("the most", Scenes.one().open(0, 9, 9), 2);
    }

    private static void wrongArgumentsComeBeforeRefusals() {
        Expect.argument("no descriptor free", () -> Scenes.noDescriptorFree().open(0, 0, 9));
        Expect.argument("missing", () -> Scenes.noDescriptorFree().open(0, 2, 5));
        Expect.argument("there", () -> Scenes.noDescriptorFree().open(0, 1, 17));
        Desk x = Scenes.one();
        x.read(0, 0, 1);
        Expect.state("waiting comes first: name", () -> x.open(0, 0, 9));
        Expect.state("waiting comes first: how", () -> x.open(0, 1, 0));
        Expect.state("absent comes first", () -> x.open(1, 10, 64));
        Expect.state("no process comes first", () -> x.open(8, 10, 64));
        Expect.state("no process comes first", () -> x.open(-1, 1, 9));
    }

    private static void missing() {
        for (int how : new int[] {1, 2, 3, 7, 34}) {
            Look.refused("how " + how, -2, Scenes::one, x -> x.open(0, 1, how));
        }
        Look.refused("one that lost its name", -2, () -> {
            Desk x = Scenes.fileOf(3);
            x.unlink(0, 1);
            return x;
        }, x -> x.open(0, 1, 1));
    }

    private static void there() {
        for (int how : new int[] {25, 26, 31, 58, 63}) {
            Look.refused("how " + how, -3, () -> Scenes.fileOf(3), x -> x.open(0, 1, how));
        }
        Desk x = Scenes.fileOf(3);
        x.unlink(0, 1);
        Expect.same("missing again", x.open(0, 1, 25), 3);
    }

    private static void makesItOnlyIfMissing() {
        Desk x = Scenes.fileOf(3);
        Expect.same("there", x.open(0, 1, 9), 3);
        Expect.same("its bytes", x.about(0, 3, 2), 3);
        Expect.same("files", x.count(4), 1);
        Expect.same("missing", x.open(0, 2, 9), 4);
        Expect.same("empty", x.about(0, 4, 2), 0);
        Expect.same("files", x.count(4), 2);
    }

    private static void takesBytesAway() {
        for (int bytes : new int[] {0, 1, 64}) {
            Desk x = Scenes.fileOf(bytes);
            Expect.same("open", x.open(0, 1, 34), 3);
            Expect.same("bytes", x.about(0, 3, 2), 0);
            Expect.same("for all", x.about(0, 2, 2), 0);
            Expect.same("another's position stays", x.about(0, 2, 3), bytes);
            Expect.same("nothing to read there", x.read(0, 2, 8), 0);
            Expect.same("another's position stays", x.about(0, 2, 3), bytes);
        }
    }

    private static void takenBytesDoNotComeBack() {
        Desk x = Scenes.fileOf(8);
        x.open(0, 1, 34);
        x.write(0, 2, 0x99, 1);
        Expect.same("length", x.about(0, 2, 2), 9);
        x.seek(0, 2, 0, 0);
        x.read(0, 2, 8);
        Expect.same("0 where bytes were", x.given(0), 0);
        x.read(0, 2, 8);
        Expect.same("the new one", x.given(0), 0x99);
    }

    private static void fullWithoutDescriptor() {
        Look.refused("a file that is there", -4, Scenes::noDescriptorFree, x -> x.open(0, 1, 1));
        Look.refused("one to empty", -4, Scenes::noDescriptorFree, x -> x.open(0, 1, 34));
        Look.refused("one to make", -4, Scenes::noDescriptorFree, x -> x.open(0, 2, 9));
        Desk x = Scenes.noDescriptorFree();
        x.close(0, 5);
        Expect.same("the last one", x.open(0, 2, 9), 5);
    }

    private static void fullWithoutOpening() {
        Look.refused("a file that is there", -4, () -> Scenes.openings(20), x -> x.open(0, 1, 1));
        Look.refused("one to empty", -4, () -> Scenes.openings(20), x -> x.open(0, 1, 34));
        Look.refused("one to make", -4, () -> Scenes.openings(20), x -> x.open(0, 2, 9));
        Desk x = Scenes.openings(19);
        Expect.same("the last one", x.open(0, 2, 9), 2);
        Expect.same("openings", x.count(2), 20);
    }

    private static void fullWithoutFile() {
        Look.refused("a seventh", -4, Scenes::sixFiles, x -> x.open(0, 7, 9));
        Look.refused("a seventh, that must be missing", -4, Scenes::sixFiles, x -> x.open(0, 7, 27));
        Expect.same("one of the six", Scenes.sixFiles().open(0, 6, 9), 2);
        Expect.same("one of the six, to empty", Scenes.sixFiles().open(0, 6, 42), 2);
        Desk x = Scenes.sixFiles();
        x.unlink(0, 3);
        Expect.same("a sixth", x.open(0, 9, 11), 2);
        Expect.same("with nothing of the former", x.about(0, 2, 2), 0);
        Expect.same("files", x.count(4), 6);
    }

    private static void openFilesWithoutNamesAreAmongTheSix() {
        Look.refused("a seventh", -4, () -> {
            Desk x = Scenes.sixFiles();
            x.open(0, 3, 1);
            x.unlink(0, 3);
            return x;
        }, x -> x.open(0, 3, 9));
        Desk x = Scenes.sixFiles();
        x.open(0, 3, 1);
        x.unlink(0, 3);
        x.close(0, 2);
        Expect.same("a sixth", x.open(0, 3, 9), 2);
    }

    private static void theFirstThatIsSo() {
        Desk x = Scenes.noDescriptorFree();
        Expect.same("missing before full", x.open(0, 2, 1), -2);
        Expect.same("there before full", x.open(0, 1, 25), -3);
        Expect.same("full", x.open(0, 1, 9), -4);
        Desk y = Scenes.openings(20);
        Expect.same("missing before full", y.open(0, 2, 1), -2);
        Expect.same("there before full", y.open(0, 1, 25), -3);
        Desk z = Scenes.sixFiles();
        Expect.same("missing before full", z.open(0, 7, 1), -2);
        Expect.same("there before full", z.open(0, 6, 25), -3);
    }

    // Promise 12

    private static void seeksFromTheBeginning() {
        for (int v : new int[] {0, 1, 2, 3, 4, 63, 64}) {
            Desk x = Scenes.fileOf(3);
            Expect.same("to " + v, x.seek(0, 2, v, 0), v);
            Expect.same("it is there", x.about(0, 2, 3), v);
            Expect.same("the file is no longer", x.about(0, 2, 2), 3);
        }
    }

    /** File 1, of three bytes, at position 7: neither the beginning nor the end. */
    private static Desk atSeven() {
        Desk x = Scenes.fileOf(3);
        x.seek(0, 2, 7, 0);
        return x;
    }

    private static void seeksFromItself() {
        for (int v : new int[] {-7, -1, 0, 1, 57}) {
            Desk x = atSeven();
            Expect.same("by " + v, x.seek(0, 2, v, 1), 7 + v);
            Expect.same("it is there", x.about(0, 2, 3), 7 + v);
            Expect.same("the file is no longer", x.about(0, 2, 2), 3);
        }
    }

    private static void seeksFromTheEnd() {
        for (int bytes : new int[] {0, 5, 64}) {
            for (int v : new int[] {-bytes, 0, 64 - bytes}) {
                Desk x = Scenes.fileOf(bytes);
                x.seek(0, 2, 7, 0);
                Expect.same("by " + v + " of " + bytes, x.seek(0, 2, v, 2), bytes + v);
                Expect.same("it is there", x.about(0, 2, 3), bytes + v);
                Expect.same("the file is no longer", x.about(0, 2, 2), bytes);
            }
        }
    }

    private static void seekBelow() {
        Look.refused("from 0", -1, FileEdgesTest::atSeven, x -> x.seek(0, 2, -1, 0));
        Look.refused("from itself", -1, FileEdgesTest::atSeven, x -> x.seek(0, 2, -8, 1));
        Look.refused("from the end", -1, FileEdgesTest::atSeven, x -> x.seek(0, 2, -4, 2));
        Look.refused("from the end of none", -1, () -> Scenes.fileOf(0), x -> x.seek(0, 2, -1, 2));
        for (int from = 0; from <= 2; from++) {
            int f = from;
            Look.refused("the least v", -1, FileEdgesTest::atSeven, x -> x.seek(0, 2, Integer.MIN_VALUE, f));
        }
    }

    private static void seekAbove() {
        Look.refused("from 0", -1, FileEdgesTest::atSeven, x -> x.seek(0, 2, 65, 0));
        Look.refused("from itself", -1, FileEdgesTest::atSeven, x -> x.seek(0, 2, 58, 1));
        Look.refused("from the end", -1, FileEdgesTest::atSeven, x -> x.seek(0, 2, 62, 2));
        Look.refused("from the end of a full one", -1, () -> Scenes.fileOf(64), x -> x.seek(0, 2, 1, 2));
        for (int from = 0; from <= 2; from++) {
            int f = from;
            // With 3 or 7 added, an int goes round to the least ones.
            Look.refused("the most v", -1, FileEdgesTest::atSeven, x -> x.seek(0, 2, Integer.MAX_VALUE, f));
        }
    }

    private static void seekOfWhatIsNoFile() {
        for (int d : NO_FILE_AT) {
            Look.refused("descriptor " + d, -1, () -> {
                Desk x = Scenes.fileOf(3);
                x.pipe(0);
                return x;
            }, x -> x.seek(0, d, 0, 0));
        }
    }

    private static void seekNeedsNoRight() {
        Desk x = Scenes.fileOf(3);
        int[] hows = {1, 2, 6, 7};
        for (int i = 0; i < hows.length; i++) {
            x.open(0, 1, hows[i]);
            Expect.same("how " + hows[i], x.seek(0, 3 + i, 2, 0), 2);
        }
    }

    private static void seekThrows() {
        for (int from : new int[] {Integer.MIN_VALUE, -1, 3, Integer.MAX_VALUE}) {
            Look.throwsArgument("from " + from, () -> Scenes.fileOf(3), x -> x.seek(0, 2, 0, from));
            Look.throwsArgument("from " + from + ", no file", () -> Scenes.fileOf(3), x -> x.seek(0, 0, 0, from));
            Look.throwsArgument("from " + from + ", none", () -> Scenes.fileOf(3), x -> x.seek(0, 8, 0, from));
            Look.throwsArgument("from " + from + ", below", () -> Scenes.fileOf(3), x -> x.seek(0, 2, -1, from));
        }
        Desk x = Scenes.fileOf(3);
        x.read(0, 0, 1);
        Expect.state("waiting", () -> x.seek(0, 2, 0, 0));
        Expect.state("waiting comes first", () -> x.seek(0, 2, 0, 3));
        Expect.state("absent comes first", () -> x.seek(1, 2, 0, -1));
        Expect.state("no process", () -> x.seek(-1, 2, 0, 0));
        Expect.state("no process", () -> x.seek(8, 2, 0, 0));
        Expect.same("it did not move", x.about(0, 2, 3), 3);
    }

    // Promise 13

    private static void losesItsNameForAll() {
        Desk x = Scenes.fileOf(3);
        x.spawn();
        Expect.same("by another process", x.unlink(1, 1), 0);
        Expect.same("for the one", x.open(0, 1, 1), -2);
        Expect.same("for the other", x.open(1, 1, 1), -2);
        Expect.same("with names", x.count(5), 0);
        Expect.same("held by its opening", x.count(4), 1);
        x.seek(0, 2, 0, 0);
        Expect.same("read", x.read(0, 2, 8), 3);
        Expect.same("bytes", x.given(0), 0x010203L);
        Expect.same("write", x.write(0, 2, 4, 1), 1);
        Expect.same("length", x.about(0, 2, 2), 4);
        x.close(0, 2);
        Expect.same("held by none", x.count(4), 0);
    }

    private static void unlinkOfOneThatIsNotOpen() {
        Desk x = Scenes.sixFiles();
        for (int name = 6; name >= 1; name--) {
            Expect.same("unlink", x.unlink(0, name), 0);
            Expect.same("gone at once", x.count(4), name - 1);
            Expect.same("names", x.count(5), name - 1);
        }
    }

    private static void unlinkOfMissing() {
        Look.refused("never there", -2, Scenes::sixFiles, x -> x.unlink(0, 7));
        Look.refused("the most", -2, Scenes::sixFiles, x -> x.unlink(0, 9));
        Look.refused("no files at all", -2, Scenes::one, x -> x.unlink(0, 1));
        Look.refused("twice", -2, () -> {
            Desk x = Scenes.fileOf(3);
            x.unlink(0, 1);
            return x;
        }, x -> x.unlink(0, 1));
    }

    private static void unlinkThrows() {
        for (int name : NO_NAME) {
            Look.throwsArgument("name " + name, Scenes::sixFiles, x -> x.unlink(0, name));
            // 0 must not be taken for the name of a file that lost its own.
            Look.throwsArgument("name " + name + " with one that has none", () -> {
                Desk x = Scenes.fileOf(3);
                x.unlink(0, 1);
                return x;
            }, x -> x.unlink(0, name));
        }
        Desk x = Scenes.fileOf(3);
        x.read(0, 0, 1);
        Expect.state("waiting", () -> x.unlink(0, 1));
        Expect.state("waiting comes first", () -> x.unlink(0, 0));
        Expect.state("absent comes first", () -> x.unlink(7, 10));
        Expect.state("no process", () -> x.unlink(8, 1));
        Expect.state("no process", () -> x.unlink(-1, 1));
        Expect.same("names", x.count(5), 1);
    }

    // Promise 14

    private static void getsAnotherName() {
        Desk x = Scenes.fileOf(3);
        Expect.same("rename", x.rename(0, 1, 9), 0);
        Expect.same("the former is missing", x.open(0, 1, 1), -2);
        Expect.same("the other one", x.open(0, 9, 1), 3);
        Expect.same("is the same file", x.about(0, 3, 2), 3);
        Expect.same("files", x.count(4), 1);
        Expect.same("back", x.rename(0, 9, 1), 0);
        Expect.same("the former is missing", x.unlink(0, 9), -2);
    }

    private static void anotherFileLosesTheName() {
        Desk x = Scenes.sixFiles();
        Expect.same("one that is not open", x.rename(0, 2, 5), 0);
        Expect.same("is gone", x.count(4), 5);
        x.open(0, 5, 1);
        Expect.same("which it is", x.about(0, 2, 2), 2);
        x.open(0, 3, 1);
        Expect.same("one that is open", x.rename(0, 6, 3), 0);
        Expect.same("is there", x.count(4), 5);
        Expect.same("without a name", x.count(5), 4);
        Expect.same("with its bytes", x.about(0, 3, 2), 3);
        x.open(0, 3, 1);
        Expect.same("which has the name", x.about(0, 4, 2), 6);
        x.close(0, 3);
        Expect.same("gone then", x.count(4), 4);
    }

    private static void renameToItself() {
        Look.unchanged("nothing changes", 0, Scenes::sixFiles, x -> x.rename(0, 4, 4));
        Look.refused("missing all the same", -2, Scenes::sixFiles, x -> x.rename(0, 7, 7));
    }

    private static void renameNeedsNoFile() {
        Desk x = Scenes.sixFiles();
        Expect.same("when six are there", x.rename(0, 1, 7), 0);
        Expect.same("files", x.count(4), 6);
        Expect.same("names", x.count(5), 6);
    }

    private static void renameOfMissing() {
        Look.refused("to a free name", -2, Scenes::sixFiles, x -> x.rename(0, 7, 8));
        Look.refused("to a name that is had", -2, Scenes::sixFiles, x -> x.rename(0, 9, 1));
        Look.refused("no files at all", -2, Scenes::one, x -> x.rename(0, 1, 2));
    }

    private static void renameThrows() {
        for (int name : NO_NAME) {
            Look.throwsArgument("name " + name, Scenes::sixFiles, x -> x.rename(0, name, 1));
            Look.throwsArgument("to " + name, Scenes::sixFiles, x -> x.rename(0, 1, name));
            Look.throwsArgument("of a missing one to " + name, Scenes::sixFiles, x -> x.rename(0, 9, name));
            Look.throwsArgument("both " + name, Scenes::sixFiles, x -> x.rename(0, name, name));
        }
        Desk x = Scenes.fileOf(3);
        x.read(0, 0, 1);
        Expect.state("waiting", () -> x.rename(0, 1, 2));
        Expect.state("waiting comes first", () -> x.rename(0, 0, 2));
        Expect.state("waiting comes first", () -> x.rename(0, 1, 10));
        Expect.state("absent comes first", () -> x.rename(7, 1, 0));
        Expect.state("no process", () -> x.rename(8, 1, 2));
        Expect.state("no process", () -> x.rename(-1, 1, 2));
        x.spawn();
        Expect.same("it has its name", x.open(1, 1, 1), 2);
    }

    public static void main(String[] args) {
        Expect.sentence("5: a new descriptor (the least that is free)", FileEdgesTest::opensTheLeastDescriptor);
        Expect.sentence("5: Opens a file, each time with a position", FileEdgesTest::opensAtTheBeginning);
        Expect.sentence("5: with 1 or 2", FileEdgesTest::needsAWayToUseIt);
        Expect.sentence("5: 4 only with 2", FileEdgesTest::appendsOnlyToWrite);
        Expect.sentence("5: 16 (with 8)", FileEdgesTest::mustBeMissingOnlyIfItMakes);
        Expect.sentence("5: 32 (with 2)", FileEdgesTest::emptiesOnlyToWrite);
        Expect.sentence("5: how is not 1 .. 63", FileEdgesTest::howIsInItsRange);
        Expect.sentence("5: and as said", FileEdgesTest::everyHow);
        Expect.sentence("5: name is not 1 .. 9", FileEdgesTest::nameIsInItsRange);
        Expect.sentence("5: IllegalStateException as said; else", FileEdgesTest::wrongArgumentsComeBeforeRefusals);
        Expect.sentence("5: MISSING", FileEdgesTest::missing);
        Expect.sentence("5: THERE", FileEdgesTest::there);
        Expect.sentence("5: 8 makes it, if it is missing", FileEdgesTest::makesItOnlyIfMissing);
        Expect.sentence("5: 32 takes its bytes away", FileEdgesTest::takesBytesAway);
        Expect.sentence("5: 32, and then 0 between", FileEdgesTest::takenBytesDoNotComeBack);
        Expect.sentence("5: FULL: no descriptor free", FileEdgesTest::fullWithoutDescriptor);
        Expect.sentence("5: FULL: no opening", FileEdgesTest::fullWithoutOpening);
        Expect.sentence("5: FULL: no file", FileEdgesTest::fullWithoutFile);
        Expect.sentence("5: its name and its openings hold a file", FileEdgesTest::openFilesWithoutNamesAreAmongTheSix);
        Expect.sentence("5: MISSING, THERE, FULL, in this order", FileEdgesTest::theFirstThatIsSo);
        Expect.sentence("12: v (from 0)", FileEdgesTest::seeksFromTheBeginning);
        Expect.sentence("12: itself and v (1)", FileEdgesTest::seeksFromItself);
        Expect.sentence("12: the file's end and v (2)", FileEdgesTest::seeksFromTheEnd);
        Expect.sentence("12: BAD also below 0", FileEdgesTest::seekBelow);
        Expect.sentence("12: BAD also above 64", FileEdgesTest::seekAbove);
        Expect.sentence("12: BAD of what is no open file", FileEdgesTest::seekOfWhatIsNoFile);
        Expect.sentence("12: whatever its rights", FileEdgesTest::seekNeedsNoRight);
        Expect.sentence("12: from is not 0 .. 2", FileEdgesTest::seekThrows);
        Expect.sentence("13: loses its name (for all)", FileEdgesTest::losesItsNameForAll);
        Expect.sentence("13: held by nothing then", FileEdgesTest::unlinkOfOneThatIsNotOpen);
        Expect.sentence("13: MISSING", FileEdgesTest::unlinkOfMissing);
        Expect.sentence("13: name is not 1 .. 9", FileEdgesTest::unlinkThrows);
        Expect.sentence("14: gets another one", FileEdgesTest::getsAnotherName);
        Expect.sentence("14: another file that has that one loses it", FileEdgesTest::anotherFileLosesTheName);
        Expect.sentence("14: another file, not itself", FileEdgesTest::renameToItself);
        Expect.sentence("14: no file is made", FileEdgesTest::renameNeedsNoFile);
        Expect.sentence("14: MISSING", FileEdgesTest::renameOfMissing);
        Expect.sentence("14: Throws as unlink", FileEdgesTest::renameThrows);
        Expect.finish();
    }
}
