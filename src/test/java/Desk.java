/** The class under test, with its calls counted: the document promises nothing of an object after its 512th. */
final class Desk {
    private static final int MOST_CALLS = 512;

    private final DescriptorDesk desk = new DescriptorDesk();
    private int calls = 0;

    private DescriptorDesk next() {
        calls++;
        if (calls > MOST_CALLS) {
            throw new AssertionError("a test makes more than 512 calls of one desk");
        }
        return desk;
    }

    int callsLeft() {
        return MOST_CALLS - calls;
    }

    int spawn() {
        return next().spawn();
    }

    int fork(int p) {
        return next().fork(p);
    }

    int exit(int p) {
        return next().exit(p);
    }

    int open(int p, int name, int how) {
        return next().open(p, name, how);
    }

    int pipe(int p) {
        return next().pipe(p);
    }

    int read(int p, int d, int n) {
        return next().read(p, d, n);
    }

    long given(int p) {
        return next().given(p);
    }

    int write(int p, int d, long bytes, int n) {
        return next().write(p, d, bytes, n);
    }

    int close(int p, int d) {
        return next().close(p, d);
    }

    int dup(int p, int d, int to) {
        return next().dup(p, d, to);
    }

    int seek(int p, int d, int v, int from) {
        return next().seek(p, d, v, from);
    }

    int unlink(int p, int name) {
        return next().unlink(p, name);
    }

    int rename(int p, int name, int other) {
        return next().rename(p, name, other);
    }

    int type(int b) {
        return next().type(b);
    }

    int shown(int k) {
        return next().shown(k);
    }

    int state(int p, int what) {
        return next().state(p, what);
    }

    int about(int p, int d, int what) {
        return next().about(p, d, what);
    }

    int count(int what) {
        return next().count(what);
    }
}
