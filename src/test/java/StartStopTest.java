/** Promises 5 (start), 6 (stop), 13 (state) and 14 (place). */
public final class StartStopTest {
    public static void main(String[] args) {
        emptyList();
        startClears();
        startAfterEachEnd();
        startForgetsFirstParts();
        notGood();
        stopReady();
        stopInAttempt();
        stopParked();
        stopOthers();
        Check.end();
    }

    private static void emptyList() {
        AtomicThreads x = new AtomicThreads();
        Check.yes("start", x.start(2));
        Check.same("state", x.state(2), AtomicThreads.DONE);
        Check.same("place", x.place(2), -1);
        Check.same("step", x.step(2), -1);
        Check.no("stop", x.stop(2));
        Check.yes("start again", x.start(2));
        Check.same("outcome", x.outcome(), 1);
    }

    private static void startClears() {
        AtomicThreads x = Words.started("SET 0 1; SET 1 2; SET 2 3; SET 3 4; ATOMIC; READ 0 0; END");
        Check.same("state", x.state(0), AtomicThreads.READY);
        Check.same("place", x.place(0), 0);
        Words.steps(x, 0, 6);
        x.put(0, 9);
        Check.same("step", x.step(0), 2);
        Check.same("discards", x.discards(0), 1);
        Check.same("run", x.run(0, 16), 3);
        Check.same("state", x.state(0), AtomicThreads.DONE);
        Check.same("place of a DONE thread", x.place(0), -1);
        Check.same("discards stay", x.discards(0), 1);
        Check.same("register", x.register(0, 3), 4);
        Check.yes("start", x.start(0));
        for (int r = 0; r < 4; r++) {
            Check.same("register " + r, x.register(0, r), 0);
        }
        Check.same("discards", x.discards(0), 0);
        Check.same("place", x.place(0), 0);
        Check.same("state", x.state(0), AtomicThreads.READY);
        Check.same("value", x.value(0), 9);
    }

    private static void startAfterEachEnd() {
        AtomicThreads x = Words.started("SET 0 3; THROW 0");
        x.run(0, 2);
        Check.same("state", x.state(0), AtomicThreads.FAILED);
        Check.same("place of a FAILED thread", x.place(0), -1);
        Check.yes("start of a FAILED thread", x.start(0));
        Check.same("register", x.register(0, 0), 0);
        Check.no("start of a READY thread", x.start(0));
        x.step(0);
        Check.no("start of a READY thread", x.start(0));
        Check.same("register", x.register(0, 0), 3);
        Check.same("place", x.place(0), 1);
        x.stop(0);
        Check.yes("start of a stopped thread", x.start(0));
        Check.same("place", x.place(0), 0);
    }

    private static void startForgetsFirstParts() {
        AtomicThreads x = Words.started("TRY; SET 0 1; CATCH 1; END");
        Words.steps(x, 0, 2);
        x.stop(0);
        x.cut(0, 0);
        Words.load(x, 0, "SET 0 5; THROW 0");
        Words.steps(x, 0, 1);
        Check.same("step", x.step(0), 4);
        Check.same("state", x.state(0), AtomicThreads.FAILED);
        Check.same("register", x.register(0, 1), 0);
        x = Words.started("TRY; TRY; TRY; TRY; ATOMIC; RETRY; END; CATCH; END; CATCH; END; CATCH; END; CATCH; END");
        for (int k = 0; k < 4; k++) {
            Words.steps(x, 0, 5);
            Check.yes("stop", x.stop(0));
            Check.yes("start", x.start(0));
        }
        Words.steps(x, 0, 5);
        Check.same("step", x.step(0), 3);
        Check.same("place", x.place(0), 4);
    }

    private static void notGood() {
        AtomicThreads x = Words.started("SET 0 8");
        x.step(0);
        Words.append(x, 0, "IF 0");
        Check.no("start", x.start(0));
        Check.same("state", x.state(0), AtomicThreads.IDLE);
        Check.same("register", x.register(0, 0), 8);
        Words.append(x, 0, "END");
        Check.yes("start", x.start(0));
    }

    private static void stopReady() {
        AtomicThreads x = Words.started("SET 0 8; SET 1 9");
        x.step(0);
        Check.yes("stop", x.stop(0));
        Check.same("state", x.state(0), AtomicThreads.IDLE);
        Check.same("place", x.place(0), -1);
        Check.same("register", x.register(0, 0), 8);
        Check.same("step", x.step(0), -1);
        Check.same("run", x.run(0, 4), 0);
        Check.no("stop again", x.stop(0));
    }

    private static void stopInAttempt() {
        AtomicThreads x = Words.started("ATOMIC; READ 1 3; SET 0 8; WRITE 2 0; END");
        Words.steps(x, 0, 4);
        Check.same("log", x.log(0), 8 + 256 * 4);
        Check.yes("stop", x.stop(0));
        Check.same("log", x.log(0), 0);
        Check.same("sees", x.sees(0, 2), 0);
        Check.same("value", x.value(2), 0);
        Check.same("commits", x.commits(), 0);
        Check.same("register stays", x.register(0, 0), 8);
        Check.same("discards", x.discards(0), 0);
        x.start(0);
        Check.same("log", x.log(0), 0);
        Words.steps(x, 0, 1);
        Check.same("log", x.log(0), 0);
    }

    private static void stopParked() {
        AtomicThreads x = Words.started("SET 0 1; ATOMIC; SET 0 2; READ 1 3; RETRY; END");
        Words.steps(x, 0, 4);
        Check.same("step", x.step(0), 3);
        Check.same("waiting", x.waiting(3), 1);
        Check.same("place", x.place(0), 1);
        Check.yes("stop", x.stop(0));
        Check.same("state", x.state(0), AtomicThreads.IDLE);
        Check.same("waiting", x.waiting(3), 0);
        Check.same("log", x.log(0), 0);
        Check.same("register", x.register(0, 0), 1);
        Check.same("discards", x.discards(0), 0);
        x.put(3, 1);
        Check.same("state", x.state(0), AtomicThreads.IDLE);
    }

    private static void stopOthers() {
        AtomicThreads x = Words.started("SET 0 1");
        Words.load(x, 1, "SET 0 1");
        x.stop(1);
        Check.same("state", x.state(0), AtomicThreads.READY);
        x.step(0);
        Check.no("stop of a DONE thread", x.stop(0));
        Check.same("state", x.state(0), AtomicThreads.DONE);
        x.cut(0, 0);
        Words.load(x, 0, "THROW 0");
        x.step(0);
        Check.no("stop of a FAILED thread", x.stop(0));
        Check.same("state", x.state(0), AtomicThreads.FAILED);
    }
}
