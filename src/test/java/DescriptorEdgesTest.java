/** The edges of promises 6, 10 and 11 (pipe, close, dup), a sentence each. */
public final class DescriptorEdgesTest {
    private static final int[] NO_DESCRIPTOR = {Integer.MIN_VALUE, -8, -2, -1, 8, 9, Integer.MAX_VALUE};

    private DescriptorEdgesTest() {
    }

    // Promise 6

    private static void pipeGetsTheLeastDescriptors() {
        int[][] free = {{0, 1}, {0, 7}, {3, 4}, {2, 6}, {6, 7}};
        for (int[] two : free) {
            Desk x = Scenes.noDescriptorFree();
            x.close(0, two[1]);
            x.close(0, two[0]);
            Expect.same("pipe", x.pipe(0), two[0] + 8 * two[1]);
            Expect.same("reads", x.about(0, two[0], 0), 1);
            Expect.same("writes", x.about(0, two[1], 0), 2);
        }
        Desk y = Scenes.one();
        y.close(0, 1);
        y.close(0, 0);
        Expect.same("all are free", y.pipe(0), 0 + 8 * 1);
    }

    private static void pipeWithoutDescriptors() {
        Look.refused("none free", -4, Scenes::noDescriptorFree, x -> x.pipe(0));
        for (int d : new int[] {0, 4, 7}) {
            Look.refused("one free: " + d, -4, () -> {
                Desk x = Scenes.noDescriptorFree();
                x.close(0, d);
                return x;
            }, x -> x.pipe(0));
        }
    }

    private static void pipeWithoutOpenings() {
        Look.refused("none free", -4, () -> Scenes.openings(20), x -> x.pipe(0));
        Look.refused("one free", -4, () -> Scenes.openings(19), x -> x.pipe(0));
        Desk x = Scenes.openings(18);
        Expect.same("two free", x.pipe(0), 2 + 8 * 3);
        Expect.same("openings", x.count(2), 20);
        Expect.same("an end each", x.about(0, 2, 1), 1);
        Expect.same("an end each", x.about(0, 3, 1), 1);
    }

    private static void aSeventhPipe() {
        Look.refused("six are there", -4, Scenes::sixPipes, x -> x.pipe(0));
        Desk x = Scenes.sixPipes();
        x.close(1, 3);
        Expect.same("held by the end that reads", x.pipe(0), -4);
        x.close(1, 2);
        Expect.same("five are there", x.count(3), 5);
        Expect.same("a sixth", x.pipe(0), 2 + 8 * 3);
        x.close(2, 6);
        Expect.same("held by the end that writes", x.pipe(0), -4);
        x.close(2, 7);
        Expect.same("a sixth", x.pipe(0), 4 + 8 * 5);
        Expect.same("six are there", x.count(3), 6);
    }

    private static void aPipeMadeAnewIsEmpty() {
        Desk x = Scenes.pipeOf(32);
        x.close(0, 2);
        x.close(0, 3);
        Expect.same("nothing is left", x.count(6), 0);
        x.pipe(0);
        Expect.same("bytes", x.about(0, 2, 2), 0);
        Expect.same("room for all", x.write(0, 3, 0x0A0B, 2), 2);
        x.read(0, 2, 8);
        Expect.same("its own", x.given(0), 0x0A0B);
    }

    private static void pipeThrows() {
        Look.throwsState("absent", Scenes::one, x -> x.pipe(1));
        Look.throwsState("no process", Scenes::one, x -> x.pipe(-1));
        Look.throwsState("no process", Scenes::one, x -> x.pipe(8));
        Look.throwsState("waiting, though full", () -> {
            Desk x = Scenes.noDescriptorFree();
            x.read(0, 0, 1);
            return x;
        }, x -> x.pipe(0));
    }

    // Promise 10

    private static void closesOne() {
        for (int d = 0; d < 8; d++) {
            Desk x = Scenes.noDescriptorFree();
            Expect.same("close", x.close(0, d), 0);
            for (int i = 0; i < 8; i++) {
                Expect.same("descriptor " + i, x.about(0, i, 0), i == d ? 0 : i == 2 ? 3 : 4);
            }
        }
    }

    private static void closeOfNone() {
        for (int d : NO_DESCRIPTOR) {
            Look.refused("descriptor " + d, -1, Scenes::noDescriptorFree, x -> x.close(0, d));
        }
        Look.refused("one that is none", -1, Scenes::pipe, x -> x.close(0, 7));
        Look.refused("twice", -1, () -> {
            Desk x = Scenes.pipe();
            x.close(0, 2);
            return x;
        }, x -> x.close(0, 2));
    }

    private static void closeOfTheLastAndOthers() {
        Desk x = Scenes.pipe();
        x.dup(0, 2, -1);
        x.fork(0);
        int[][] in = {{0, 2}, {1, 2}, {0, 4}};
        for (int[] at : in) {
            x.close(at[0], at[1]);
            Expect.same("the opening is there", x.count(2), 3);
        }
        Expect.same("held by", x.about(1, 4, 1), 1);
        Expect.same("it may be read", x.write(1, 3, 1, 1), 1);
        x.close(1, 4);
        Expect.same("the last one", x.count(2), 2);
        Expect.same("it is read no more", x.write(1, 3, 1, 1), -5);
    }

    private static void closeEndsAPipe() {
        Desk x = Scenes.pipeOf(5);
        x.close(0, 3);
        Expect.same("the end that reads holds it", x.count(3), 1);
        Expect.same("with its bytes", x.count(6), 5);
        x.close(0, 2);
        Expect.same("none holds it", x.count(3), 0);
        Expect.same("nor its bytes", x.count(6), 0);
        Desk y = Scenes.pipeOf(5);
        y.close(0, 2);
        Expect.same("the end that writes holds it", y.count(3), 1);
        Expect.same("with its bytes", y.about(0, 3, 2), 5);
        y.close(0, 3);
        Expect.same("none holds it", y.count(3), 0);
    }

    private static void closeEndsAFileWithoutName() {
        Desk x = Scenes.fileOf(3);
        x.open(0, 1, 1);
        x.unlink(0, 1);
        x.close(0, 2);
        Expect.same("another opening holds it", x.count(4), 1);
        x.close(0, 3);
        Expect.same("none holds it", x.count(4), 0);
        Desk y = Scenes.fileOf(3);
        y.close(0, 2);
        Expect.same("its name holds it", y.count(4), 1);
        Expect.same("with its bytes", y.open(0, 1, 1), 2);
        Expect.same("with its bytes", y.about(0, 2, 2), 3);
    }

    private static void closeThrows() {
        Look.throwsState("absent", Scenes::one, x -> x.close(1, 0));
        Look.throwsState("no process", Scenes::one, x -> x.close(-1, 0));
        Look.throwsState("no process", Scenes::one, x -> x.close(8, 0));
        Look.throwsState("waiting", DescriptorEdgesTest::oneWaits, x -> x.close(0, 0));
        Look.throwsState("waiting comes before bad", DescriptorEdgesTest::oneWaits, x -> x.close(0, 9));
    }

    private static Desk oneWaits() {
        Desk x = Scenes.pipe();
        x.read(0, 0, 1);
        return x;
    }

    // Promise 11

    private static void dupToTheLeast() {
        Desk x = Scenes.noDescriptorFree();
        for (int d : new int[] {7, 5, 0}) {
            x.close(0, d);
        }
        for (int d : new int[] {0, 5, 7}) {
            Expect.same("dup", x.dup(0, 2, -1), d);
            Expect.same("a file", x.about(0, d, 0), 3);
        }
        Expect.same("held by four", x.about(0, 2, 1), 4);
    }

    private static void dupToEach() {
        for (int to = 0; to < 8; to++) {
            Desk x = Scenes.pipe();
            Expect.same("to " + to, x.dup(0, 3, to), to);
            Expect.same("writes", x.about(0, to, 0), 2);
            Expect.same("held by", x.about(0, to, 1), to == 3 ? 1 : 2);
            Expect.same("openings", x.count(2), to == 2 ? 2 : 3);
            Expect.same("the former is there", x.about(0, 3, 0), 2);
        }
    }

    private static void dupToItself() {
        Look.unchanged("the last one", 3, Scenes::pipe, x -> x.dup(0, 3, 3));
        Look.unchanged("one of two", 0, Scenes::pipe, x -> x.dup(0, 0, 0));
        Look.unchanged("the last that reads", 2, Scenes::pipe, x -> x.dup(0, 2, 2));
        Look.unchanged("the last of a file without a name", 2, () -> {
            Desk x = Scenes.fileOf(3);
            x.unlink(0, 1);
            return x;
        }, x -> x.dup(0, 2, 2));
        Look.unchanged("when none is free", 7, Scenes::noDescriptorFree, x -> x.dup(0, 7, 7));
        Look.unchanged("to one of the same opening", 1, Scenes::pipe, x -> x.dup(0, 0, 1));
    }

    private static void whatItWasToGoes() {
        Desk x = Scenes.pipeOf(5);
        x.dup(0, 0, 3);
        Expect.same("the end that writes", x.count(2), 2);
        Expect.same("no more is to come", x.read(0, 2, 8), 5);
        Expect.same("no more is to come", x.read(0, 2, 8), 0);
        x.dup(0, 0, 2);
        Expect.same("the pipe", x.count(3), 0);
        Desk y = Scenes.fileOf(3);
        y.unlink(0, 1);
        y.dup(0, 0, 2);
        Expect.same("a file without a name", y.count(4), 0);
        Desk z = Scenes.pipe();
        z.fork(0);
        z.dup(0, 0, 2);
        Expect.same("not what another one holds", z.about(1, 2, 1), 1);
    }

    private static void dupOfNone() {
        for (int d : NO_DESCRIPTOR) {
            Look.refused("descriptor " + d, -1, Scenes::pipe, x -> x.dup(0, d, -1));
            Look.refused("descriptor " + d + " to 0", -1, Scenes::pipe, x -> x.dup(0, d, 0));
        }
        Look.refused("one that is none", -1, Scenes::pipe, x -> x.dup(0, 4, -1));
        Look.refused("one that is none, to 2", -1, Scenes::pipe, x -> x.dup(0, 4, 2));
        Look.refused("one that is none, to itself", -1, Scenes::pipe, x -> x.dup(0, 4, 4));
    }

    private static void dupWhenNoneIsFree() {
        Look.refused("a new one", -4, Scenes::noDescriptorFree, x -> x.dup(0, 0, -1));
        Expect.same("one that is there", Scenes.noDescriptorFree().dup(0, 0, 2), 2);
        for (int d : NO_DESCRIPTOR) {
            Look.refused("bad before full: " + d, -1, Scenes::noDescriptorFree, x -> x.dup(0, d, -1));
        }
        Desk x = Scenes.noDescriptorFree();
        x.close(0, 6);
        Expect.same("the last one", x.dup(0, 0, -1), 6);
    }

    private static void dupNeedsNoOpening() {
        Desk x = Scenes.openings(20);
        for (int d = 2; d < 8; d++) {
            Expect.same("dup", x.dup(0, 0, -1), d);
        }
        Expect.same("openings", x.count(2), 20);
    }

    private static void dupThrows() {
        for (int to : new int[] {Integer.MIN_VALUE, -2, 8, 9, Integer.MAX_VALUE}) {
            Look.throwsArgument("to " + to, Scenes::pipe, x -> x.dup(0, 2, to));
            Look.throwsArgument("of none to " + to, Scenes::pipe, x -> x.dup(0, 5, to));
            Look.throwsArgument("of itself, " + to, Scenes::pipe, x -> x.dup(0, to, to));
            Look.throwsState("waiting comes first: " + to, DescriptorEdgesTest::oneWaits, x -> x.dup(0, 0, to));
            Look.throwsState("absent comes first: " + to, Scenes::pipe, x -> x.dup(1, 0, to));
        }
        Look.throwsState("waiting", DescriptorEdgesTest::oneWaits, x -> x.dup(0, 0, -1));
        Look.throwsState("no process", Scenes::pipe, x -> x.dup(-1, 0, -1));
        Look.throwsState("no process", Scenes::pipe, x -> x.dup(8, 0, 7));
    }

    public static void main(String[] args) {
        Expect.sentence("6: reads + 8 * writes (got in this order)", DescriptorEdgesTest::pipeGetsTheLeastDescriptors);
        Expect.sentence("6: FULL: no descriptor free", DescriptorEdgesTest::pipeWithoutDescriptors);
        Expect.sentence("6: FULL: no opening", DescriptorEdgesTest::pipeWithoutOpenings);
        Expect.sentence("6: FULL: no pipe", DescriptorEdgesTest::aSeventhPipe);
        Expect.sentence("6: Makes a pipe", DescriptorEdgesTest::aPipeMadeAnewIsEmpty);
        Expect.sentence("6: IllegalStateException as said", DescriptorEdgesTest::pipeThrows);
        Expect.sentence("10: A descriptor is none", DescriptorEdgesTest::closesOne);
        Expect.sentence("10: BAD", DescriptorEdgesTest::closeOfNone);
        Expect.sentence("10: descriptors hold an opening", DescriptorEdgesTest::closeOfTheLastAndOthers);
        Expect.sentence("10: its openings hold a pipe", DescriptorEdgesTest::closeEndsAPipe);
        Expect.sentence("10: its name and its openings hold a file", DescriptorEdgesTest::closeEndsAFileWithoutName);
        Expect.sentence("10: IllegalStateException as said", DescriptorEdgesTest::closeThrows);
        Expect.sentence("11: A new descriptor (to is -1)", DescriptorEdgesTest::dupToTheLeast);
        Expect.sentence("11: or descriptor to", DescriptorEdgesTest::dupToEach);
        Expect.sentence("11: nothing changes if to is d", DescriptorEdgesTest::dupToItself);
        Expect.sentence("11: what to was to before goes", DescriptorEdgesTest::whatItWasToGoes);
        Expect.sentence("11: BAD", DescriptorEdgesTest::dupOfNone);
        Expect.sentence("11: BAD, FULL, in this order", DescriptorEdgesTest::dupWhenNoneIsFree);
        Expect.sentence("11: the same opening, no other", DescriptorEdgesTest::dupNeedsNoOpening);
        Expect.sentence("11: to is not -1 .. 7", DescriptorEdgesTest::dupThrows);
        Expect.finish();
    }
}
