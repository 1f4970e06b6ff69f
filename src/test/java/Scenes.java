/** Desks with which several tests begin. */
final class Scenes {
    private Scenes() {
    }

    /** Process 0, ready, with the console at 0 and 1. */
    static Desk one() {
        Desk x = new Desk();
        x.spawn();
        return x;
    }

    static Desk processes(int n) {
        Desk x = new Desk();
        for (int p = 0; p < n; p++) {
            x.spawn();
        }
        return x;
    }

    /** Process 0 has a pipe: 2 reads, 3 writes. */
    static Desk pipe() {
        Desk x = one();
        x.pipe(0);
        return x;
    }

    static Desk pipeOf(int bytes) {
        Desk x = pipe();
        fillPipe(x, 0, 3, bytes);
        return x;
    }

    /** Process 0 alone reads (2), process 1 alone writes (3). */
    static Desk readerAndWriter() {
        Desk x = pipe();
        x.fork(0);
        x.close(0, 3);
        x.close(1, 2);
        return x;
    }

    /** The bytes 1, 2, 3 .. go into a pipe. */
    static void fillPipe(Desk x, int p, int d, int bytes) {
        for (int i = 1; i <= bytes; i++) {
            x.write(p, d, i, 1);
        }
    }

    /** Process 0 has file 1 open at 2, to read and write, at its end: the bytes 1, 2, 3 .. are in it. */
    static Desk fileOf(int bytes) {
        Desk x = one();
        x.open(0, 1, 1 | 2 | 8);
        for (int i = 1; i <= bytes; i++) {
            x.write(0, 2, i, 1);
        }
        return x;
    }

    /** So many openings are there (9 .. 20), and processes 0 .. 3; process 0 has 2 .. 7 free, and 1 has none. */
    static Desk openings(int n) {
        Desk x = processes(4);
        int there = 4;
        for (int p = 1; p < 4; p++) {
            for (int d = 2; d < 8 && there < n; d++) {
                x.open(p, 1, 1 | 8);
                there++;
            }
        }
        return x;
    }

    /** Six pipes are there, held by processes 1 and 2; process 0 has none of them. */
    static Desk sixPipes() {
        Desk x = processes(3);
        for (int p = 1; p <= 2; p++) {
            for (int i = 0; i < 3; i++) {
                x.pipe(p);
            }
        }
        return x;
    }

    /** Six files are there, named 1 .. 6, with as many bytes as their name says; none is open. */
    static Desk sixFiles() {
        Desk x = one();
        for (int name = 1; name <= 6; name++) {
            x.open(0, name, 2 | 8);
            x.write(0, 2, 0x1112131415161718L, name);
            x.close(0, 2);
        }
        return x;
    }

    /** Process 0 has no descriptor free: 2 is file 1, to read and write, with three bytes; 3 .. 7 are the console. */
    static Desk noDescriptorFree() {
        Desk x = fileOf(3);
        for (int d = 3; d < 8; d++) {
            x.dup(0, 0, d);
        }
        return x;
    }
}
