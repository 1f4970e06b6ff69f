/**
 * All that can be seen of a desk, and whether a refused call changed any of it.
 *
 * A scene is made anew for each part that is looked at, as no desk may get more than 512 calls: what a
 * desk shows behind the call is held against what another one shows that did not get the call.
 */
final class Look {
    interface Scene {
        Desk made();
    }

    interface Act {
        long on(Desk x);
    }

    private interface Part {
        String of(Desk x);
    }

    private static final int CALLS_A_READ = 8;

    private static final Part[] BUT_WAITING = {Look::counts, Look::descriptors};
    private static final Part[] ALL = {Look::waiting, Look::counts, Look::descriptors, Look::contents, Look::ends, Look::names};

    private Look() {
    }

    /** The call is answered below 0, and nothing else changes. */
    static void refused(String what, long due, Scene scene, Act act) {
        unchanged(what, due, scene, act);
    }

    /** The call is answered so, and nothing changes. */
    static void unchanged(String what, long due, Scene scene, Act act) {
        for (Part part : ALL) {
            Desk x = scene.made();
            Expect.same(what, act.on(x), due);
            Expect.text(what + " changes something", part.of(x), part.of(scene.made()));
        }
    }

    static void throwsState(String what, Scene scene, Act act) {
        for (Part part : ALL) {
            Desk x = scene.made();
            Expect.state(what, () -> act.on(x));
            Expect.text(what + " changes something", part.of(x), part.of(scene.made()));
        }
    }

    static void throwsArgument(String what, Scene scene, Act act) {
        for (Part part : ALL) {
            Desk x = scene.made();
            Expect.argument(what, () -> act.on(x));
            Expect.text(what + " changes something", part.of(x), part.of(scene.made()));
        }
    }

    /** The call is answered WAIT, and nothing changes but that process p (and no other) waits now. */
    static void waits(String what, int p, int toDo, int d, int n, Scene scene, Act act) {
        for (Part part : BUT_WAITING) {
            Desk x = scene.made();
            Expect.same(what, act.on(x), -6);
            Expect.text(what + " changes something", part.of(x), part.of(scene.made()));
        }
        Desk x = scene.made();
        int before = x.count(1);
        act.on(x);
        Expect.same(what + ": state 0", x.state(p, 0), toDo);
        Expect.same(what + ": state 1", x.state(p, 1), d);
        Expect.same(what + ": state 2", x.state(p, 2), n);
        Expect.same(what + ": one waits more", x.count(1), before + 1);
    }

    private static String waiting(Desk x) {
        StringBuilder text = new StringBuilder("wait " + x.count(1) + " in vain " + x.count(8));
        for (int p = 0; p < 8; p++) {
            text.append(" | ").append(x.state(p, 0)).append(' ').append(x.state(p, 1)).append(' ').append(x.state(p, 2));
        }
        return text.toString();
    }

    private static String counts(Desk x) {
        StringBuilder text = new StringBuilder("counts");
        for (int what : new int[] {0, 2, 3, 4, 5, 6, 7}) {
            text.append(' ').append(x.count(what));
        }
        text.append(" given");
        for (int p = 0; p < 8; p++) {
            text.append(' ').append(x.given(p));
        }
        text.append(" shown");
        for (int k = 0; k <= 60; k++) {
            text.append(' ').append(x.shown(k));
        }
        return text.toString();
    }

    private static String descriptors(Desk x) {
        StringBuilder text = new StringBuilder("descriptors");
        for (int p = 0; p < 8; p++) {
            for (int d = 0; d < 8; d++) {
                text.append(" | ").append(x.about(p, d, 0));
                for (int what = 1; what <= 4; what++) {
                    text.append(' ').append(x.about(p, d, what));
                }
            }
        }
        return text.toString();
    }

    /** What is in the pipes, typed, and in the files that are open, as far as a ready process may read it. */
    private static String contents(Desk x) {
        StringBuilder text = new StringBuilder("contents");
        for (int p = 0; p < 8; p++) {
            for (int d = 0; x.state(p, 0) == 1 && d < 8; d++) {
                int kind = x.about(p, d, 0);
                text.append(" | ").append(p).append(' ').append(d).append(':');
                if (kind == 3) {
                    x.seek(p, d, 0, 0);
                    readFile(x, p, d, text);
                } else if (kind == 1 || kind == 4) {
                    readAll(x, p, d, text);
                }
            }
        }
        return text.toString();
    }

    private static void readAll(Desk x, int p, int d, StringBuilder text) {
        while (x.callsLeft() > CALLS_A_READ * 9 && x.about(p, d, 2) > 0) {
            text.append(' ').append(x.read(p, d, 8)).append(' ').append(x.given(p));
        }
    }

    private static void readFile(Desk x, int p, int d, StringBuilder text) {
        int got = 8;
        while (x.callsLeft() > CALLS_A_READ * 9 && got == 8) {
            got = x.read(p, d, 8);
            text.append(' ').append(got).append(' ').append(x.given(p));
        }
    }

    /** Whether a pipe is broken, and whether more is to come out of it. */
    private static String ends(Desk x) {
        StringBuilder text = new StringBuilder("ends");
        for (int p = 0; p < 8; p++) {
            for (int d = 0; x.state(p, 0) == 1 && d < 8; d++) {
                if (x.about(p, d, 0) == 2) {
                    text.append(" | ").append(p).append(' ').append(d).append(": ").append(x.write(p, d, 0, 0));
                }
            }
        }
        for (int p = 0; p < 8; p++) {
            for (int d = 0; x.state(p, 0) == 1 && d < 8; d++) {
                if (x.about(p, d, 0) == 1 && x.about(p, d, 2) == 0) {
                    text.append(" | ").append(p).append(' ').append(d).append(": ").append(x.read(p, d, 1));
                }
            }
        }
        return text.toString();
    }

    /** Which names there are, and what is in their files. */
    private static String names(Desk x) {
        StringBuilder text = new StringBuilder("names");
        for (int p = 0; p < 8; p++) {
            if (x.state(p, 0) != 0) {
                x.exit(p);
            }
        }
        int reader = x.spawn();
        for (int name = 1; name <= 9; name++) {
            int d = x.open(reader, name, 1);
            text.append(" | ").append(name).append(':');
            if (d >= 0) {
                readFile(x, reader, d, text);
                x.close(reader, d);
            }
        }
        return text.toString();
    }
}
