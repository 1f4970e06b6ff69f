/** Promises 5, 12, 13 and 14 (open, seek, unlink, rename), and 7 and 9 (read, write) of files. */
public final class FilesTest {
    private static final int[] NO_NAME = {Integer.MIN_VALUE, -1, 0, 10, Integer.MAX_VALUE};

    private FilesTest() {
    }

    private static Desk deskWithOne() {
        Desk x = new Desk();
        x.spawn();
        return x;
    }

    private static void fill(Desk x, int d, int eights) {
        for (int i = 0; i < eights; i++) {
            Expect.same("fill", x.write(0, d, 0x1122334455667788L, 8), 8);
        }
    }

    /** Promise 5. */
    private static void open() {
        Desk x = deskWithOne();
        Expect.same("missing", x.open(0, 5, 1), -2);
        Expect.same("missing, to empty", x.open(0, 5, 2 | 32), -2);
        Expect.same("nothing was made", x.count(4), 0);
        Expect.same("made", x.open(0, 5, 2 | 8), 2);
        Expect.same("a file", x.about(0, 2, 0), 3);
        Expect.same("rights 2", x.about(0, 2, 4), 2);
        fill(x, 2, 1);
        Expect.same("there", x.open(0, 5, 1 | 8 | 16), -3);
        Expect.same("there, to empty", x.open(0, 5, 2 | 8 | 16 | 32), -3);
        Expect.same("not emptied", x.about(0, 2, 2), 8);
        Expect.same("opened, not made anew", x.open(0, 5, 3 | 8), 3);
        Expect.same("begins at 0", x.about(0, 3, 3), 0);
        Expect.same("rights 3", x.about(0, 3, 4), 3);
        Expect.same("its bytes", x.about(0, 3, 2), 8);
        Expect.same("appending", x.open(0, 5, 6), 4);
        Expect.same("rights 6", x.about(0, 4, 4), 6);
        Expect.same("appending begins at 0", x.about(0, 4, 3), 0);
        Expect.same("all rights", x.open(0, 5, 7), 5);
        Expect.same("rights 7", x.about(0, 5, 4), 7);
        Expect.same("to empty", x.open(0, 5, 2 | 32), 6);
        Expect.same("emptied for all", x.about(0, 3, 2), 0);
        Expect.same("the position of another opening stays", x.about(0, 2, 3), 8);
        Expect.same("the rights have no more than 7", x.about(0, 6, 4), 2);
        Expect.same("must be missing", x.open(0, 6, 1 | 8 | 16), 7);
        Expect.same("two files", x.count(4), 2);
        Expect.same("an opening each", x.count(2), 7);
    }

    private static void openWhichIsNoWay() {
        Desk x = deskWithOne();
        x.open(0, 1, 9);
        for (int how = -70; how <= 140; how++) {
            int h = how;
            boolean fine = h >= 1 && h <= 63 && (h & 3) != 0 && ((h & 4) == 0 || (h & 2) != 0)
                && ((h & 16) == 0 || (h & 8) != 0) && ((h & 32) == 0 || (h & 2) != 0);
            if (fine) {
                Expect.same("how " + h, x.open(0, 1, h), (h & 16) != 0 ? -3 : 3);
                if ((h & 16) == 0) {
                    Expect.same("rights of how " + h, x.about(0, 3, 4), h & 7);
                    x.close(0, 3);
                }
            } else {
                Expect.argument("how " + h, () -> x.open(0, 1, h));
            }
        }
        Expect.argument("how least", () -> x.open(0, 1, Integer.MIN_VALUE | 1));
        Expect.argument("how most", () -> x.open(0, 1, Integer.MAX_VALUE));
        for (int name : NO_NAME) {
            Expect.argument("name " + name, () -> x.open(0, name, 9));
        }
        Expect.same("name 9", x.open(0, 9, 9), 3);
    }

    private static void openWhenFull() {
        Desk x = deskWithOne();
        for (int name = 1; name <= 6; name++) {
            Expect.same("make", x.open(0, name, 11), 2);
            fill(x, 2, 1);
            x.close(0, 2);
        }
        Expect.same("six files", x.count(4), 6);
        Expect.same("a seventh", x.open(0, 7, 9), -4);
        Expect.same("missing comes first", x.open(0, 7, 1), -2);
        Expect.same("one that is there", x.open(0, 6, 9), 2);
        for (int d = 3; d < 8; d++) {
            x.dup(0, 0, -1);
        }
        Expect.same("no descriptor", x.open(0, 1, 2 | 32), -4);
        Expect.same("missing before full", x.open(0, 7, 1), -2);
        Expect.same("there before full", x.open(0, 1, 1 | 8 | 16), -3);
        x.close(0, 2);
        Expect.same("not emptied", x.open(0, 1, 1), 2);
        Expect.same("not emptied", x.about(0, 2, 2), 8);
        x.unlink(0, 1);
        Expect.same("six: one without a name", x.count(4), 6);
        x.close(0, 7);
        Expect.same("full while it is open", x.open(0, 8, 9), -4);
        x.close(0, 2);
        Expect.same("made in its place", x.open(0, 8, 11), 2);
        Expect.same("without its bytes", x.about(0, 2, 2), 0);
    }

    private static void openWithoutOpening() {
        Desk x = deskWithOne();
        x.spawn();
        x.spawn();
        for (int p = 0; p < 3; p++) {
            for (int d = 2; d < (p == 2 ? 7 : 8); d++) {
                Expect.same("open", x.open(p, 1, 9), d);
            }
        }
        Expect.same("all openings are there", x.count(2), 20);
        Expect.same("no opening for a file", x.open(2, 2, 9), -4);
        Expect.same("nothing was made", x.count(4), 1);
        Expect.same("no opening for a file that is there", x.open(2, 1, 1), -4);
        Expect.same("dup needs none", x.dup(2, 6, -1), 7);
    }

    /** Promise 12. */
    private static void seek() {
        Desk x = deskWithOne();
        x.open(0, 1, 11);
        fill(x, 2, 2);
        Expect.same("from 0", x.seek(0, 2, 5, 0), 5);
        Expect.same("from itself", x.seek(0, 2, 3, 1), 8);
        Expect.same("back from itself", x.seek(0, 2, -8, 1), 0);
        Expect.same("from the end", x.seek(0, 2, -1, 2), 15);
        Expect.same("behind the end", x.seek(0, 2, 1, 2), 17);
        Expect.same("the position", x.about(0, 2, 3), 17);
        Expect.same("the file is no longer", x.about(0, 2, 2), 16);
        Expect.same("the most", x.seek(0, 2, 64, 0), 64);
        Expect.same("above the most", x.seek(0, 2, 65, 0), -1);
        Expect.same("above, from itself", x.seek(0, 2, 1, 1), -1);
        Expect.same("above, from the end", x.seek(0, 2, 49, 2), -1);
        Expect.same("the most, from the end", x.seek(0, 2, 48, 2), 64);
        Expect.same("below 0", x.seek(0, 2, -1, 0), -1);
        Expect.same("below, from itself", x.seek(0, 2, -65, 1), -1);
        Expect.same("below, from the end", x.seek(0, 2, -17, 2), -1);
        Expect.same("nothing changed", x.about(0, 2, 3), 64);
        for (int from = 0; from <= 2; from++) {
            Expect.same("largest v", x.seek(0, 2, Integer.MAX_VALUE, from), -1);
            Expect.same("least v", x.seek(0, 2, Integer.MIN_VALUE, from), -1);
        }
        Expect.same("a copy has the same position", x.dup(0, 2, -1), 3);
        x.seek(0, 3, 4, 0);
        Expect.same("by the copy", x.about(0, 2, 3), 4);
        x.open(0, 1, 1);
        Expect.same("another opening has its own", x.about(0, 4, 3), 0);
    }

    private static void seekOfOthers() {
        Desk x = deskWithOne();
        x.pipe(0);
        for (int d : new int[] {Integer.MIN_VALUE, -1, 0, 1, 2, 3, 4, 7, 8, Integer.MAX_VALUE}) {
            Expect.same("seek of " + d, x.seek(0, d, 0, 0), -1);
        }
        x.open(0, 1, 9);
        for (int from : new int[] {Integer.MIN_VALUE, -1, 3, Integer.MAX_VALUE}) {
            Expect.argument("from " + from, () -> x.seek(0, 4, 0, from));
            Expect.argument("from " + from + " of none", () -> x.seek(0, 9, 0, from));
        }
    }

    /** Promise 7. */
    private static void read() {
        Desk x = deskWithOne();
        x.open(0, 1, 2 | 8);
        x.write(0, 2, 0x0102030405060708L, 8);
        x.write(0, 2, 0x090AL, 2);
        Expect.same("no right to read", x.read(0, 2, 1), -1);
        Expect.same("no right, n 0", x.read(0, 2, 0), -1);
        x.open(0, 1, 1);
        Expect.same("three", x.read(0, 3, 3), 3);
        Expect.same("given", x.given(0), 0x010203L);
        Expect.same("n 0", x.read(0, 3, 0), 0);
        Expect.same("given by n 0", x.given(0), 0);
        Expect.same("position", x.about(0, 3, 3), 3);
        Expect.same("the rest", x.read(0, 3, 8), 7);
        Expect.same("given", x.given(0), 0x0405060708090AL);
        Expect.same("position", x.about(0, 3, 3), 10);
        Expect.same("at the end", x.read(0, 3, 8), 0);
        Expect.same("given", x.given(0), 0);
        x.seek(0, 3, 20, 0);
        Expect.same("behind the end", x.read(0, 3, 8), 0);
        Expect.same("the position stays", x.about(0, 3, 3), 20);
        x.seek(0, 3, 0, 0);
        Expect.same("eight", x.read(0, 3, 8), 8);
        Expect.same("given", x.given(0), 0x0102030405060708L);
    }

    /** Promise 9. */
    private static void write() {
        Desk x = deskWithOne();
        x.open(0, 1, 1 | 8);
        Expect.same("no right to write", x.write(0, 2, 1, 1), -1);
        Expect.same("no right, n 0", x.write(0, 2, 1, 0), -1);
        x.open(0, 1, 2);
        Expect.same("two of eight", x.write(0, 3, 0x0102030405060708L, 2), 2);
        Expect.same("position", x.about(0, 3, 3), 2);
        Expect.same("n 0", x.write(0, 3, 5, 0), 0);
        x.seek(0, 3, 1, 0);
        Expect.same("over what is there", x.write(0, 3, 0xFFFEL, 2), 2);
        Expect.same("length", x.about(0, 3, 2), 3);
        x.seek(0, 3, 0, 0);
        x.write(0, 3, 0x80L, 1);
        Expect.same("the length stays", x.about(0, 3, 2), 3);
        x.seek(0, 3, 6, 0);
        Expect.same("n 0 behind the end", x.write(0, 3, 5, 0), 0);
        Expect.same("the length stays", x.about(0, 3, 2), 3);
        Expect.same("behind the end", x.write(0, 3, 0x99L, 1), 1);
        Expect.same("length", x.about(0, 3, 2), 7);
        Expect.same("read", x.read(0, 2, 8), 7);
        Expect.same("with 0 between", x.given(0), 0x80FFFE00000099L);
        x.open(0, 1, 2 | 32);
        x.seek(0, 3, 4, 0);
        x.write(0, 3, 0x77L, 1);
        x.seek(0, 2, 0, 0);
        x.read(0, 2, 8);
        Expect.same("with 0 where bytes were taken away", x.given(0), 0x77L);
        Expect.same("length", x.about(0, 3, 2), 5);
    }

    private static void append() {
        Desk x = deskWithOne();
        x.open(0, 1, 7 | 8);
        x.open(0, 1, 3);
        x.write(0, 3, 0x0102L, 2);
        Expect.same("n 0", x.write(0, 2, 9, 0), 0);
        Expect.same("the position stays", x.about(0, 2, 3), 0);
        Expect.same("append", x.write(0, 2, 0x03L, 1), 1);
        Expect.same("the position is behind", x.about(0, 2, 3), 3);
        x.seek(0, 2, 1, 0);
        Expect.same("append, wherever it was", x.write(0, 2, 0x04L, 1), 1);
        Expect.same("the position is behind", x.about(0, 2, 3), 4);
        x.seek(0, 2, 60, 0);
        Expect.same("append from behind the end", x.write(0, 2, 0x05060708090A0B0CL, 8), 8);
        Expect.same("length", x.about(0, 2, 2), 12);
        x.seek(0, 3, 0, 0);
        x.read(0, 3, 8);
        Expect.same("bytes", x.given(0), 0x0102030405060708L);
        x.seek(0, 2, 1, 0);
        Expect.same("reads at its position", x.read(0, 2, 1), 1);
        Expect.same("byte", x.given(0), 2);
    }

    private static void room() {
        Desk x = deskWithOne();
        x.open(0, 1, 3 | 8);
        fill(x, 2, 7);
        x.write(0, 2, 0, 7);
        Expect.same("two too many by one", x.write(0, 2, 0, 2), -7);
        Expect.same("nothing changed", x.about(0, 2, 3), 63);
        Expect.same("nothing changed", x.about(0, 2, 2), 63);
        x.open(0, 1, 6);
        Expect.same("appending too many", x.write(0, 3, 0, 2), -7);
        Expect.same("the position stays", x.about(0, 3, 3), 0);
        Expect.same("the last one", x.write(0, 2, 0xAB, 1), 1);
        Expect.same("length", x.about(0, 2, 2), 64);
        Expect.same("one more", x.write(0, 2, 0, 1), -7);
        Expect.same("none more", x.write(0, 2, 0, 0), 0);
        Expect.same("appending one more", x.write(0, 3, 0, 1), -7);
        Expect.same("appending none more", x.write(0, 3, 0, 0), 0);
        x.seek(0, 2, -1, 2);
        Expect.same("the last is read", x.read(0, 2, 8), 1);
        Expect.same("the last", x.given(0), 0xAB);
        x.open(0, 2, 10);
        x.seek(0, 4, 57, 0);
        Expect.same("a short file would be too long", x.write(0, 4, 0, 8), -7);
        Expect.same("not made longer", x.about(0, 4, 2), 0);
        x.seek(0, 4, 56, 0);
        Expect.same("just not too long", x.write(0, 4, 0, 8), 8);
        Expect.same("length", x.about(0, 4, 2), 64);
    }

    /** Promise 13. */
    private static void unlink() {
        Desk x = deskWithOne();
        Expect.same("missing", x.unlink(0, 1), -2);
        x.open(0, 1, 11);
        fill(x, 2, 1);
        x.spawn();
        Expect.same("for all", x.unlink(1, 1), 0);
        Expect.same("missing then", x.open(0, 1, 1), -2);
        Expect.same("no longer there", x.unlink(0, 1), -2);
        Expect.same("the file is there", x.count(4), 1);
        Expect.same("without a name", x.count(5), 0);
        Expect.same("its bytes are there", x.about(0, 2, 2), 8);
        Expect.same("another of that name", x.open(0, 1, 9 | 16), 3);
        Expect.same("is another one", x.about(0, 3, 2), 0);
        Expect.same("two files", x.count(4), 2);
        x.close(0, 2);
        Expect.same("the one without a name is gone", x.count(4), 1);
        x.close(0, 3);
        Expect.same("the one with a name stays", x.count(4), 1);
        Expect.same("unlink", x.unlink(0, 1), 0);
        Expect.same("gone", x.count(4), 0);
        for (int name : NO_NAME) {
            Expect.argument("unlink " + name, () -> x.unlink(0, name));
        }
    }

    /** Promise 14. */
    private static void rename() {
        Desk x = deskWithOne();
        Expect.same("missing", x.rename(0, 1, 2), -2);
        Expect.same("missing, to itself", x.rename(0, 1, 1), -2);
        x.open(0, 1, 11);
        fill(x, 2, 1);
        Expect.same("to itself", x.rename(0, 1, 1), 0);
        Expect.same("it keeps its name", x.open(0, 1, 1), 3);
        Expect.same("to a free name", x.rename(0, 1, 9), 0);
        Expect.same("the old one is missing", x.open(0, 1, 1), -2);
        Expect.same("the new one", x.open(0, 9, 1), 4);
        Expect.same("has the bytes", x.about(0, 4, 2), 8);
        x.open(0, 3, 10);
        Expect.same("missing does nothing", x.rename(0, 4, 3), -2);
        Expect.same("names", x.count(5), 2);
        Expect.same("to a name that is had", x.rename(0, 9, 3), 0);
        Expect.same("names", x.count(5), 1);
        Expect.same("the other is still open", x.count(4), 2);
        Expect.same("which has the name", x.open(0, 3, 1), 6);
        Expect.same("the one with bytes", x.about(0, 6, 2), 8);
        x.close(0, 5);
        Expect.same("the other is gone", x.count(4), 1);
        x.open(0, 5, 9);
        x.close(0, 5);
        Expect.same("to a name of one not open", x.rename(0, 3, 5), 0);
        Expect.same("it is gone at once", x.count(4), 1);
        for (int name : NO_NAME) {
            Expect.argument("rename " + name, () -> x.rename(0, name, 1));
            Expect.argument("rename to " + name, () -> x.rename(0, 5, name));
            Expect.argument("rename of a missing one to " + name, () -> x.rename(0, 1, name));
        }
    }

    public static void main(String[] args) {
        open();
        openWhichIsNoWay();
        openWhenFull();
        openWithoutOpening();
        seek();
        seekOfOthers();
        read();
        write();
        append();
        room();
        unlink();
        rename();
        Expect.finish();
    }
}
