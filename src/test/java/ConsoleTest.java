/** Promises 15 and 16 (type, shown), and 7 and 9 (read, write) of the console. */
public final class ConsoleTest {
    private ConsoleTest() {
    }

    private static Desk deskWithOne() {
        Desk x = new Desk();
        x.spawn();
        return x;
    }

    private static void typeAll(Desk x, int... bytes) {
        for (int b : bytes) {
            Expect.same("type " + b, x.type(b), 0);
        }
    }

    /** Promise 15. */
    private static void type() {
        Desk x = new Desk();
        Expect.same("with no process", x.type(0), 0);
        Expect.same("the highest", x.type(255), 0);
        for (int b : new int[] {Integer.MIN_VALUE, -1, 256, Integer.MAX_VALUE}) {
            Expect.argument("type " + b, () -> x.type(b));
        }
        x.spawn();
        Expect.same("two were typed", x.about(0, 0, 2), 2);
        for (int i = 2; i < 40; i++) {
            Expect.same("type", x.type(i + 10), 0);
        }
        Expect.same("forty are there", x.type(1), -7);
        Expect.same("the wrong come first", x.about(0, 0, 2), 40);
        Expect.argument("a wrong one when forty are there", () -> x.type(256));
        Expect.same("read", x.read(0, 0, 3), 3);
        Expect.same("the first three", x.given(0), 0x00FF0CL);
        Expect.same("room again", x.type(99), 0);
        Expect.same("they are shown by nobody", x.count(7), 0);
        for (int i = 0; i < 37; i++) {
            x.read(0, 0, 1);
            Expect.same("in order", x.given(0), 13 + i);
        }
        x.read(0, 0, 1);
        Expect.same("the last", x.given(0), 99);
    }

    private static void typeWakesAll() {
        Desk x = deskWithOne();
        x.fork(0);
        x.spawn();
        x.spawn();
        x.pipe(3);
        for (int p = 0; p < 3; p++) {
            Expect.same("wait", x.read(p, 0, 1 + p), -6);
        }
        Expect.same("waits for a pipe", x.read(3, 2, 1), -6);
        Expect.same("three are woken", x.type(4), 3);
        Expect.same("one is not", x.count(1), 1);
        Expect.same("the end for the first", x.read(1, 0, 1), 0);
        Expect.same("wait again", x.read(0, 0, 1), -6);
        Expect.same("one is woken", x.type(5), 1);
        Expect.same("a reader takes it", x.read(2, 0, 1), 1);
        Expect.same("the other is ready", x.state(0, 0), 1);
    }

    /** Promise 7. */
    private static void read() {
        Desk x = deskWithOne();
        Expect.same("n 0 of none", x.read(0, 0, 0), 0);
        Expect.same("ready", x.state(0, 0), 1);
        typeAll(x, 1, 2, 3);
        Expect.same("n 0", x.read(0, 0, 0), 0);
        Expect.same("takes nothing", x.about(0, 0, 2), 3);
        Expect.same("two", x.read(0, 1, 2), 2);
        Expect.same("given", x.given(0), 0x0102L);
        Expect.same("as many as there are", x.read(0, 0, 8), 1);
        Expect.same("given", x.given(0), 3);
        x.spawn();
        typeAll(x, 7);
        Expect.same("all openings have what was typed", x.about(1, 0, 2), 1);
        Expect.same("another reads it", x.read(1, 0, 8), 1);
        Expect.same("none is left", x.read(0, 0, 8), -6);
        Expect.same("given stays", x.given(0), 3);
    }

    private static void readToTheEnd() {
        Desk x = deskWithOne();
        typeAll(x, 1, 2, 4, 3, 4, 4, 5, 4);
        Expect.same("n before the end", x.read(0, 0, 2), 2);
        Expect.same("it isn't looked at", x.about(0, 0, 2), 6);
        Expect.same("n 0 does not take it", x.read(0, 0, 0), 0);
        Expect.same("it is there", x.about(0, 0, 2), 6);
        Expect.same("the first is an end", x.read(0, 0, 8), 0);
        Expect.same("given", x.given(0), 0);
        Expect.same("it was taken", x.about(0, 0, 2), 5);
        Expect.same("up to the end", x.read(0, 0, 2), 1);
        Expect.same("given", x.given(0), 3);
        Expect.same("the end was taken", x.about(0, 0, 2), 3);
        Expect.same("an end again", x.read(0, 0, 1), 0);
        Expect.same("what is behind it stays", x.about(0, 0, 2), 2);
        Expect.same("up to the last end", x.read(0, 0, 8), 1);
        Expect.same("nothing is left", x.about(0, 0, 2), 0);
        Expect.same("wait", x.read(0, 0, 1), -6);
    }

    private static void endElsewhere() {
        Desk x = deskWithOne();
        x.pipe(0);
        x.write(0, 3, 0x010402L, 3);
        Expect.same("a pipe knows no end byte", x.read(0, 2, 8), 3);
        x.open(0, 1, 11);
        x.write(0, 4, 0x010402L, 3);
        x.seek(0, 4, 0, 0);
        Expect.same("a file knows no end byte", x.read(0, 4, 8), 3);
        x.write(0, 0, 4, 1);
        Expect.same("it is shown as others", x.shown(0), 4);
    }

    /** Promises 9 and 16. */
    private static void shown() {
        Desk x = deskWithOne();
        Expect.same("none", x.shown(0), -1);
        Expect.same("n 0", x.write(0, 0, 65, 0), 0);
        Expect.same("none", x.shown(0), -1);
        Expect.same("write", x.write(0, 1, 0xFF4142434445L, 3), 3);
        Expect.same("the highest first", x.shown(0), 0x43);
        Expect.same("next", x.shown(1), 0x44);
        Expect.same("last", x.shown(2), 0x45);
        Expect.same("behind", x.shown(3), -1);
        Expect.same("below", x.shown(-1), -1);
        Expect.same("least", x.shown(Integer.MIN_VALUE), -1);
        Expect.same("most", x.shown(Integer.MAX_VALUE), -1);
        x.spawn();
        for (int i = 0; i < 57; i++) {
            x.write(1, 0, i, 1);
        }
        Expect.same("sixty are kept", x.shown(59), 56);
        Expect.same("the first too", x.shown(0), 0x43);
        Expect.same("no more", x.shown(60), -1);
        x.write(0, 0, 0xFEFFL, 2);
        Expect.same("the oldest went", x.shown(0), 0x45);
        Expect.same("the latest", x.shown(59), 0xFF);
        Expect.same("the one before", x.shown(58), 0xFE);
        Expect.same("no more", x.shown(60), -1);
        Expect.same("in all", x.count(7), 62);
        for (int i = 0; i < 20; i++) {
            x.write(0, 0, 0x0102030405060708L, 8);
        }
        Expect.same("in all", x.count(7), 222);
        for (int k = 0; k < 60; k++) {
            Expect.same("shown " + k, x.shown(k), 1 + (k + 4) % 8);
        }
        Expect.same("what is shown is not typed", x.about(0, 0, 2), 0);
    }

    public static void main(String[] args) {
        type();
        typeWakesAll();
        read();
        readToTheEnd();
        endElsewhere();
        shown();
        Expect.finish();
    }
}
