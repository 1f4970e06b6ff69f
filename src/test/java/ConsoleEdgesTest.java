/** The edges of promises 15 and 16 (type, shown), a sentence each. */
public final class ConsoleEdgesTest {
    private ConsoleEdgesTest() {
    }

    /** So many bytes were typed: 11, 12, 13 .. */
    private static Desk typed(int n) {
        Desk x = Scenes.one();
        for (int i = 0; i < n; i++) {
            x.type(11 + i);
        }
        return x;
    }

    /** So many bytes were shown: 0, 1, 2 .. */
    private static Desk shown(int n) {
        Desk x = Scenes.one();
        for (int i = 0; i < n; i++) {
            x.write(0, 1, i, 1);
        }
        return x;
    }

    // Promise 15

    private static void everyByte() {
        for (int b = 0; b <= 255; b++) {
            Desk x = Scenes.one();
            Expect.same("type " + b, x.type(b), 0);
            Expect.same("typed", x.about(0, 0, 2), 1);
            Expect.same("read", x.read(0, 0, 8), b == 4 ? 0 : 1);
            Expect.same("given", x.given(0), b == 4 ? 0 : b);
        }
    }

    private static void fortyAreThere() {
        Expect.same("the fortieth", typed(39).type(1), 0);
        Look.refused("one more", -7, () -> typed(40), x -> x.type(1));
        Look.refused("an end more", -7, () -> typed(40), x -> x.type(4));
        Desk x = typed(40);
        x.read(0, 0, 1);
        Expect.same("one was read", x.type(1), 0);
        Expect.same("then no more", x.type(1), -7);
    }

    private static void endsAreAmongTheForty() {
        Desk x = Scenes.one();
        for (int i = 0; i < 40; i++) {
            Expect.same("type", x.type(4), 0);
        }
        Expect.same("one more", x.type(4), -7);
        Expect.same("an end is taken", x.read(0, 0, 8), 0);
        Expect.same("room for one", x.type(4), 0);
        Expect.same("one more", x.type(4), -7);
    }

    private static void typedGoesRound() {
        Desk x = typed(40);
        int first = 11;
        int next = 51;
        for (int i = 0; i < 9; i++) {
            Expect.same("read", x.read(0, 0, 8), 8);
            for (int k = 0; k < 8; k++) {
                Expect.same("in order", x.given(0) >> 8 * (7 - k) & 255, first++);
                Expect.same("type", x.type(next++), 0);
            }
            Expect.same("forty", x.about(0, 0, 2), 40);
        }
        for (int i = 0; i < 40; i++) {
            x.read(0, 0, 1);
            Expect.same("in order", x.given(0), first++);
        }
        Expect.same("nothing is left", x.about(0, 0, 2), 0);
    }

    private static void typeWakes() {
        Desk none = new Desk();
        Expect.same("no process", none.type(1), 0);
        Expect.same("none waits", Scenes.processes(8).type(1), 0);
        for (int waiting = 1; waiting <= 8; waiting++) {
            Desk x = Scenes.processes(8);
            for (int p = 0; p < waiting; p++) {
                x.read(p, p % 2, 8 - p);
            }
            Expect.same("all that wait", x.type(waiting), waiting);
            Expect.same("none waits", x.count(1), 0);
            Expect.same("nothing was taken", x.about(0, 0, 2), 1);
            Expect.same("no more", x.type(1), 0);
        }
    }

    private static void typeWakesNoOthers() {
        Desk x = Scenes.readerAndWriter();
        x.spawn();
        x.read(0, 2, 1);
        Scenes.fillPipe(x, 1, 3, 1);
        x.read(0, 2, 1);
        x.read(0, 2, 1);
        x.read(2, 0, 1);
        Expect.same("the one at the console", x.type(1), 1);
        Expect.same("not the one at the pipe", x.state(0, 0), 2);
    }

    private static void typeThrows() {
        for (int b : new int[] {Integer.MIN_VALUE, -256, -1, 256, 257, 260, Integer.MAX_VALUE}) {
            Look.throwsArgument("type " + b, Scenes::one, x -> x.type(b));
            Look.throwsArgument("type " + b + " when forty are there", () -> typed(40), x -> x.type(b));
            Desk y = Scenes.one();
            y.read(0, 0, 1);
            Expect.argument("type " + b, () -> y.type(b));
            Expect.same("it wakes none", y.state(0, 0), 2);
        }
    }

    private static void typedStaysWithoutProcesses() {
        Desk x = typed(3);
        x.exit(0);
        Expect.same("type", x.type(14), 0);
        x.spawn();
        Expect.same("typed", x.about(0, 0, 2), 4);
        x.read(0, 0, 8);
        Expect.same("given", x.given(0), 0x0B0C0D0E);
    }

    // Promise 16

    private static void fromTheOldestOn() {
        for (int n : new int[] {0, 1, 2, 59, 60}) {
            Desk x = shown(n);
            for (int k = 0; k < n; k++) {
                Expect.same("the " + k + "-th of " + n, x.shown(k), k);
            }
            Expect.same("behind the last of " + n, x.shown(n), -1);
            Expect.same("in all", x.count(7), n);
        }
    }

    private static void theLatestSixty() {
        for (int n : new int[] {61, 63, 64, 65, 120, 121, 130, 200}) {
            Desk x = shown(n);
            for (int k = 0; k < 60; k++) {
                Expect.same("the " + k + "-th of " + n, x.shown(k), n - 60 + k);
            }
            Expect.same("no more than sixty", x.shown(60), -1);
            Expect.same("in all", x.count(7), n);
        }
    }

    private static void sixtyInTheMiddleOfACall() {
        for (int before = 53; before <= 60; before++) {
            Desk x = shown(before);
            x.write(0, 0, 0xF1F2F3F4F5F6F7F8L, 8);
            Expect.same("the oldest", x.shown(0), before + 8 - 60);
            Expect.same("the one before the call", x.shown(51), before - 1);
            Expect.same("the first of the call", x.shown(52), 0xF1);
            Expect.same("the latest", x.shown(59), 0xF8);
            Expect.same("no more", x.shown(60), -1);
        }
    }

    private static void minusOneForNone() {
        int[] none = {Integer.MIN_VALUE, -64, -60, -1, 60, 61, 64, 1 << 30, Integer.MAX_VALUE};
        for (int n : new int[] {0, 1, 60, 100}) {
            Desk x = shown(n);
            for (int k : none) {
                Expect.same("the " + k + "-th of " + n, x.shown(k), -1);
            }
        }
    }

    private static void byAnyProcess() {
        Desk x = Scenes.processes(2);
        x.write(1, 0, 0xFF, 1);
        x.write(0, 1, 0x00, 1);
        x.exit(0);
        x.exit(1);
        Expect.same("the highest byte", x.shown(0), 255);
        Expect.same("the least byte", x.shown(1), 0);
        Expect.same("in all", x.count(7), 2);
    }

    public static void main(String[] args) {
        Expect.sentence("15: A byte is typed, 0 .. 255", ConsoleEdgesTest::everyByte);
        Expect.sentence("15: -7 when 40 are there", ConsoleEdgesTest::fortyAreThere);
        Expect.sentence("15: 40, ends too", ConsoleEdgesTest::endsAreAmongTheForty);
        Expect.sentence("15: up to 40, round and round", ConsoleEdgesTest::typedGoesRound);
        Expect.sentence("15: how many processes were woken", ConsoleEdgesTest::typeWakes);
        Expect.sentence("15: woken, and no others", ConsoleEdgesTest::typeWakesNoOthers);
        Expect.sentence("15: IllegalArgumentException when it is not 0 .. 255", ConsoleEdgesTest::typeThrows);
        Expect.sentence("15: typed bytes that were not read", ConsoleEdgesTest::typedStaysWithoutProcesses);
        Expect.sentence("16: from the oldest on", ConsoleEdgesTest::fromTheOldestOn);
        Expect.sentence("16: shown that are kept: the latest 60", ConsoleEdgesTest::theLatestSixty);
        Expect.sentence("16: the latest 60, in the middle of a call", ConsoleEdgesTest::sixtyInTheMiddleOfACall);
        Expect.sentence("16: -1 for none", ConsoleEdgesTest::minusOneForNone);
        Expect.sentence("16: the bytes shown, by any process", ConsoleEdgesTest::byAnyProcess);
        Expect.finish();
    }
}
