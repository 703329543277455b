/** Promise 1, and what calls with a number out of its range answer on a new object. */
public final class NewObjectTest {
    private static final int[] NO_THREADS = {-1, 4, 5, 32, Integer.MIN_VALUE, Integer.MAX_VALUE};
    private static final int[] NO_VARIABLES = {-1, 8, 9, 32, Integer.MIN_VALUE, Integer.MAX_VALUE};

    public static void main(String[] args) {
        newObject();
        noSuchThread();
        noSuchVariable();
        noSuchRegister();
        constants();
        Check.end();
    }

    private static void newObject() {
        AtomicThreads x = new AtomicThreads();
        for (int t = 0; t < 4; t++) {
            Check.same("state", x.state(t), AtomicThreads.IDLE);
            Check.same("check", x.check(t), -1);
            Check.same("place", x.place(t), -1);
            Check.same("log", x.log(t), 0);
            Check.same("discards", x.discards(t), 0);
            Check.same("step", x.step(t), -1);
            Check.no("stop", x.stop(t));
            Check.no("cut 1", x.cut(t, 1));
            Check.yes("cut 0", x.cut(t, 0));
            for (int r = 0; r < 4; r++) {
                Check.same("register", x.register(t, r), 0);
            }
            for (int v = 0; v < 8; v++) {
                Check.same("sees", x.sees(t, v), 0);
            }
        }
        for (int v = 0; v < 8; v++) {
            Check.same("value", x.value(v), 0);
            Check.same("version", x.version(v), 0);
            Check.same("waiting", x.waiting(v), 0);
        }
        Check.same("commits", x.commits(), 0);
        Check.same("outcome", x.outcome(), 1);
        Check.same("printed(-1)", x.printed(-1), 0);
        for (int k = 0; k < 16; k++) {
            Check.same("printed", x.printed(k), 0);
        }
    }

    private static void noSuchThread() {
        AtomicThreads x = new AtomicThreads();
        for (int t : NO_THREADS) {
            Check.no("add", x.add(t, 0, 0, 0));
            Check.no("cut", x.cut(t, 0));
            Check.same("check", x.check(t), -2);
            Check.no("start", x.start(t));
            Check.no("stop", x.stop(t));
            Check.same("step", x.step(t), -1);
            Check.same("state", x.state(t), -1);
            Check.same("place", x.place(t), -1);
            Check.same("register", x.register(t, 0), 0);
            Check.same("log", x.log(t), 0);
            Check.same("discards", x.discards(t), 0);
            x.put(0, 5);
            Check.same("sees", x.sees(t, 0), 0);
        }
        for (int t = 0; t < 4; t++) {
            Check.same("state", x.state(t), AtomicThreads.IDLE);
            Check.no("cut 1", x.cut(t, 1));
        }
    }

    private static void noSuchVariable() {
        AtomicThreads x = new AtomicThreads();
        for (int v = 0; v < 8; v++) {
            x.put(v, 7);
        }
        for (int v : NO_VARIABLES) {
            Check.no("put", x.put(v, 1));
            Check.same("value", x.value(v), 0);
            Check.same("version", x.version(v), 0);
            Check.same("waiting", x.waiting(v), 0);
            Check.same("sees", x.sees(0, v), 0);
        }
        Check.same("commits", x.commits(), 8);
    }

    private static void noSuchRegister() {
        AtomicThreads x = Words.started("SET 0 6; SET 3 7");
        x.run(0, 2);
        for (int r : NO_THREADS) {
            Check.same("register", x.register(0, r), 0);
        }
        Check.same("register 0", x.register(0, 0), 6);
        Check.same("register 3", x.register(0, 3), 7);
    }

    private static void constants() {
        Check.same("IDLE", AtomicThreads.IDLE, 0);
        Check.same("READY", AtomicThreads.READY, 1);
        Check.same("PARKED", AtomicThreads.PARKED, 2);
        Check.same("DONE", AtomicThreads.DONE, 3);
        Check.same("FAILED", AtomicThreads.FAILED, 4);
    }
}
