import java.util.ArrayDeque;
import java.util.ArrayList;
import java.util.Collections;
import java.util.Deque;
import java.util.IdentityHashMap;
import java.util.List;
import java.util.Set;

/**
 * The document said once more, in another way: nothing is counted as it changes, all is looked up
 * from the descriptors each time. ModelTest holds the real desk against it.
 */
final class PlainDesk {
    private static final class Pipe {
        final Deque<Integer> bytes = new ArrayDeque<>();
    }

    private static final class Data {
        final List<Integer> bytes = new ArrayList<>();
        int name = 0;
    }

    private static final class Opening {
        Pipe pipe;
        Data data;
        int position;
        int rights;
    }

    private static final class Proc {
        final Opening[] to = new Opening[8];
        long given = 0;
        boolean waits = false;
        boolean waitsToRead = false;
        int through = -1;
        int wants = 0;
    }

    private final Proc[] procs = new Proc[8];
    private final List<Data> named = new ArrayList<>();
    private final Deque<Integer> typed = new ArrayDeque<>();
    private final List<Integer> shown = new ArrayList<>();

    private Set<Opening> openings() {
        Set<Opening> all = Collections.newSetFromMap(new IdentityHashMap<>());
        for (Proc q : procs) {
            for (int d = 0; q != null && d < 8; d++) {
                if (q.to[d] != null) {
                    all.add(q.to[d]);
                }
            }
        }
        return all;
    }

    private Set<Pipe> pipes() {
        Set<Pipe> all = Collections.newSetFromMap(new IdentityHashMap<>());
        for (Opening o : openings()) {
            if (o.pipe != null) {
                all.add(o.pipe);
            }
        }
        return all;
    }

    private Set<Data> files() {
        Set<Data> all = Collections.newSetFromMap(new IdentityHashMap<>());
        all.addAll(named);
        for (Opening o : openings()) {
            if (o.data != null) {
                all.add(o.data);
            }
        }
        return all;
    }

    private boolean hasEnd(Pipe pipe, int right) {
        return openings().stream().anyMatch(o -> o.pipe == pipe && o.rights == right);
    }

    private Proc ready(int p) {
        if (p < 0 || p > 7 || procs[p] == null || procs[p].waits) {
            throw new IllegalStateException();
        }
        return procs[p];
    }

    private static void due(boolean fine) {
        if (!fine) {
            throw new IllegalArgumentException();
        }
    }

    private static Opening at(Proc q, int d) {
        return d < 0 || d > 7 ? null : q.to[d];
    }

    private static int free(Proc q) {
        for (int d = 0; d < 8; d++) {
            if (q.to[d] == null) {
                return d;
            }
        }
        return -1;
    }

    private int absent() {
        for (int p = 0; p < 8; p++) {
            if (procs[p] == null) {
                return p;
            }
        }
        return -1;
    }

    private Data named(int name) {
        return named.stream().filter(f -> f.name == name).findFirst().orElse(null);
    }

    private int woken() {
        int n = 0;
        for (Proc q : procs) {
            if (q != null && q.waits) {
                int would = q.waitsToRead ? wouldRead(q, q.through, q.wants) : wouldWrite(q, q.through, q.wants);
                if (would != -6) {
                    q.waits = false;
                    q.through = -1;
                    q.wants = 0;
                    n++;
                }
            }
        }
        return n;
    }

    int spawn() {
        int p = absent();
        if (p < 0 || openings().size() == 20) {
            return -4;
        }
        procs[p] = new Proc();
        Opening o = new Opening();
        o.rights = 3;
        procs[p].to[0] = o;
        procs[p].to[1] = o;
        return p;
    }

    int fork(int p) {
        Proc parent = ready(p);
        int c = absent();
        if (c < 0) {
            return -4;
        }
        procs[c] = new Proc();
        System.arraycopy(parent.to, 0, procs[c].to, 0, 8);
        return c;
    }

    int exit(int p) {
        if (p < 0 || p > 7 || procs[p] == null) {
            throw new IllegalStateException();
        }
        procs[p] = null;
        return woken();
    }

    int open(int p, int name, int how) {
        Proc q = ready(p);
        due(name >= 1 && name <= 9 && how >= 1 && how <= 63);
        boolean w = (how & 2) != 0;
        due((how & 1) != 0 || w);
        due((how & 4) == 0 || w);
        due((how & 16) == 0 || (how & 8) != 0);
        due((how & 32) == 0 || w);
        Data f = named(name);
        if (f == null && (how & 8) == 0) {
            return -2;
        }
        if (f != null && (how & 16) != 0) {
            return -3;
        }
        int d = free(q);
        if (d < 0 || openings().size() == 20 || f == null && files().size() == 6) {
            return -4;
        }
        if (f == null) {
            f = new Data();
            f.name = name;
            named.add(f);
        }
        if ((how & 32) != 0) {
            f.bytes.clear();
        }
        Opening o = new Opening();
        o.data = f;
        o.rights = how & 7;
        q.to[d] = o;
        return d;
    }

    int pipe(int p) {
        Proc q = ready(p);
        int r = free(q);
        if (r < 0 || openings().size() > 18 || pipes().size() == 6) {
            return -4;
        }
        Opening reads = new Opening();
        reads.pipe = new Pipe();
        reads.rights = 1;
        q.to[r] = reads;
        int w = free(q);
        if (w < 0) {
            q.to[r] = null;
            return -4;
        }
        q.to[w] = new Opening();
        q.to[w].pipe = reads.pipe;
        q.to[w].rights = 2;
        return r + 8 * w;
    }

    private int wouldRead(Proc q, int d, int n) {
        Opening o = at(q, d);
        if (o == null || (o.rights & 1) == 0) {
            return -1;
        }
        boolean dry = o.pipe != null ? o.pipe.bytes.isEmpty() && hasEnd(o.pipe, 2) : o.data == null && typed.isEmpty();
        return n > 0 && dry ? -6 : 0;
    }

    int read(int p, int d, int n) {
        Proc q = ready(p);
        due(n >= 0 && n <= 8);
        int would = wouldRead(q, d, n);
        if (would < 0) {
            keepWaiting(q, would, true, d, n);
            return would;
        }
        Opening o = q.to[d];
        List<Integer> got = new ArrayList<>();
        while (got.size() < n) {
            if (o.data != null) {
                if (o.position >= o.data.bytes.size()) {
                    break;
                }
                got.add(o.data.bytes.get(o.position++));
            } else {
                Deque<Integer> source = o.pipe != null ? o.pipe.bytes : typed;
                if (source.isEmpty()) {
                    break;
                }
                int b = source.removeFirst();
                if (o.pipe == null && b == 4) {
                    break;
                }
                got.add(b);
            }
        }
        q.given = 0;
        for (int b : got) {
            q.given = q.given * 256 + b;
        }
        woken();
        return got.size();
    }

    private static void keepWaiting(Proc q, int would, boolean toRead, int d, int n) {
        if (would == -6) {
            q.waits = true;
            q.waitsToRead = toRead;
            q.through = d;
            q.wants = n;
        }
    }

    long given(int p) {
        return p < 0 || p > 7 || procs[p] == null ? 0 : procs[p].given;
    }

    private int wouldWrite(Proc q, int d, int n) {
        Opening o = at(q, d);
        if (o == null || (o.rights & 2) == 0) {
            return -1;
        }
        if (o.pipe != null && !hasEnd(o.pipe, 1)) {
            return -5;
        }
        if (o.data != null && n > 0 && ((o.rights & 4) != 0 ? o.data.bytes.size() : o.position) + n > 64) {
            return -7;
        }
        return o.pipe != null && n > 0 && o.pipe.bytes.size() + n > 32 ? -6 : n;
    }

    int write(int p, int d, long bytes, int n) {
        Proc q = ready(p);
        due(n >= 0 && n <= 8);
        int would = wouldWrite(q, d, n);
        if (would <= 0) {
            keepWaiting(q, would, false, d, n);
            return would;
        }
        Opening o = q.to[d];
        if (o.data != null && (o.rights & 4) != 0) {
            o.position = o.data.bytes.size();
        }
        for (int i = n - 1; i >= 0; i--) {
            int b = (int) (bytes >> 8 * i & 0xFF);
            if (o.pipe != null) {
                o.pipe.bytes.addLast(b);
            } else if (o.data != null) {
                while (o.data.bytes.size() <= o.position) {
                    o.data.bytes.add(0);
                }
                o.data.bytes.set(o.position++, b);
            } else {
                shown.add(b);
            }
        }
        woken();
        return n;
    }

    int close(int p, int d) {
        Proc q = ready(p);
        if (at(q, d) == null) {
            return -1;
        }
        q.to[d] = null;
        woken();
        return 0;
    }

    int dup(int p, int d, int to) {
        Proc q = ready(p);
        due(to >= -1 && to <= 7);
        if (at(q, d) == null) {
            return -1;
        }
        int target = to < 0 ? free(q) : to;
        if (target < 0) {
            return -4;
        }
        q.to[target] = q.to[d];
        woken();
        return target;
    }

    int seek(int p, int d, int v, int from) {
        Proc q = ready(p);
        due(from >= 0 && from <= 2);
        Opening o = at(q, d);
        if (o == null || o.data == null) {
            return -1;
        }
        long[] bases = {0, o.position, o.data.bytes.size()};
        long next = bases[from] + v;
        if (next < 0 || next > 64) {
            return -1;
        }
        o.position = (int) next;
        return o.position;
    }

    int unlink(int p, int name) {
        ready(p);
        due(name >= 1 && name <= 9);
        return named.removeIf(f -> f.name == name) ? 0 : -2;
    }

    int rename(int p, int name, int other) {
        ready(p);
        due(name >= 1 && name <= 9 && other >= 1 && other <= 9);
        Data f = named(name);
        if (f == null) {
            return -2;
        }
        named.removeIf(g -> g != f && g.name == other);
        f.name = other;
        return 0;
    }

    int type(int b) {
        due(b >= 0 && b <= 255);
        if (typed.size() == 40) {
            return -7;
        }
        typed.addLast(b);
        return woken();
    }

    int shown(int k) {
        int gone = Math.max(0, shown.size() - 60);
        return k < 0 || k >= shown.size() - gone ? -1 : shown.get(gone + k);
    }

    int state(int p, int what) {
        Proc q = p < 0 || p > 7 ? null : procs[p];
        if (what < 0 || what > 2) {
            return -1;
        }
        if (what == 0) {
            return q == null ? 0 : !q.waits ? 1 : q.waitsToRead ? 2 : 3;
        }
        int none = what == 1 ? -1 : 0;
        return q == null ? none : what == 1 ? q.through : q.wants;
    }

    int about(int p, int d, int what) {
        if (p < 0 || p > 7 || d < 0 || d > 7 || what < 0 || what > 4) {
            return -1;
        }
        Opening o = procs[p] == null ? null : procs[p].to[d];
        if (o == null) {
            return what == 0 ? 0 : -1;
        }
        if (what == 0) {
            return o.pipe != null ? o.rights : o.data != null ? 3 : 4;
        }
        if (what == 1) {
            int n = 0;
            for (Proc q : procs) {
                for (int i = 0; q != null && i < 8; i++) {
                    n += q.to[i] == o ? 1 : 0;
                }
            }
            return n;
        }
        if (what == 2) {
            return o.pipe != null ? o.pipe.bytes.size() : o.data != null ? o.data.bytes.size() : typed.size();
        }
        return what == 3 ? o.position : o.rights;
    }

    private boolean allInVain(int set) {
        for (int p = 0; p < 8; p++) {
            if ((set >> p & 1) == 0) {
                continue;
            }
            Proc q = procs[p];
            if (q == null || !q.waits || q.to[q.through].pipe == null) {
                return false;
            }
            for (int other = 0; other < 8; other++) {
                for (int d = 0; (set >> other & 1) == 0 && procs[other] != null && d < 8; d++) {
                    Opening o = procs[other].to[d];
                    if (o != null && o.pipe == q.to[q.through].pipe && o.rights != q.to[q.through].rights) {
                        return false;
                    }
                }
            }
        }
        return true;
    }

    int count(int what) {
        int there = 0;
        int waiting = 0;
        for (Proc q : procs) {
            there += q != null ? 1 : 0;
            waiting += q != null && q.waits ? 1 : 0;
        }
        switch (what) {
            case 0: return there;
            case 1: return waiting;
            case 2: return openings().size();
            case 3: return pipes().size();
            case 4: return files().size();
            case 5: return named.size();
            case 6: return pipes().stream().mapToInt(q -> q.bytes.size()).sum();
            case 7: return shown.size();
            case 8: {
                int most = 0;
                for (int set = 0; set < 256; set++) {
                    if (Integer.bitCount(set) > most && allInVain(set)) {
                        most = Integer.bitCount(set);
                    }
                }
                return most;
            }
            default: return -1;
        }
    }
}
