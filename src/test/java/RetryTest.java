/** Promises 7, 9, 17, 18 and 20: RETRY, EITHER, threads that sleep and what wakes them. */
public final class RetryTest {
    public static void main(String[] args) {
        parks();
        parksWithNothingRead();
        discardedInsteadOfParked();
        wokenByPut();
        wokenByPutOfTheSameValue();
        wokenByCommit();
        notWokenByReaders();
        secondPart();
        eitherWithoutRetry();
        nestedEithers();
        retryInSecondPart();
        retryEndsFirstPartsWithin();
        retryKeepsOuterTry();
        retryNotesWrites();
        parkedKeepsOuterTry();
        eitherInLoop();
        outcomes();
        Check.end();
    }

    private static void parks() {
        AtomicThreads x = Words.started("SET 0 1; ATOMIC; SET 0 2; READ 1 3; READ 2 5; WRITE 6 0; RETRY; END");
        Words.steps(x, 0, 6);
        Check.same("log", x.log(0), 8 + 32 + 256 * 64);
        Check.same("step", x.step(0), 3);
        Check.same("state", x.state(0), AtomicThreads.PARKED);
        Check.same("place", x.place(0), 1);
        Check.same("register", x.register(0, 0), 1);
        Check.same("log", x.log(0), 8 + 32);
        Check.same("sees", x.sees(0, 6), 0);
        Check.same("waiting 3", x.waiting(3), 1);
        Check.same("waiting 5", x.waiting(5), 1);
        Check.same("waiting 6", x.waiting(6), 0);
        Check.same("discards", x.discards(0), 0);
        Check.same("run", x.run(0, 16), 0);
    }

    private static void parksWithNothingRead() {
        AtomicThreads x = Words.started("ATOMIC; RETRY; END");
        Words.steps(x, 0, 1);
        Check.same("step", x.step(0), 3);
        for (int v = 0; v < 8; v++) {
            x.put(v, 1);
        }
        Check.same("state", x.state(0), AtomicThreads.PARKED);
        Check.same("log", x.log(0), 0);
        Check.same("outcome", x.outcome(), 2);
        Check.yes("stop", x.stop(0));
    }

    private static void discardedInsteadOfParked() {
        AtomicThreads x = Words.started("SET 0 1; ATOMIC; SET 0 2; READ 1 3; RETRY; END");
        Words.steps(x, 0, 4);
        x.put(3, 1);
        Check.same("step", x.step(0), 2);
        Check.same("state", x.state(0), AtomicThreads.READY);
        Check.same("place", x.place(0), 1);
        Check.same("register", x.register(0, 0), 1);
        Check.same("log", x.log(0), 0);
        Check.same("discards", x.discards(0), 1);
        Words.steps(x, 0, 3);
        x.put(4, 1);
        Check.same("another's change does not matter", x.step(0), 3);
    }

    private static void wokenByPut() {
        AtomicThreads x = new AtomicThreads();
        for (int t = 0; t < 3; t++) {
            Words.load(x, t, "ATOMIC; READ 0 " + t + "; READ 0 7; RETRY; END");
            Words.steps(x, t, 3);
            Check.same("step", x.step(t), 3);
        }
        Check.same("waiting 7", x.waiting(7), 3);
        Check.same("waiting 1", x.waiting(1), 1);
        Check.yes("put", x.put(1, 5));
        Check.same("state 0", x.state(0), AtomicThreads.PARKED);
        Check.same("state 1", x.state(1), AtomicThreads.READY);
        Check.same("state 2", x.state(2), AtomicThreads.PARKED);
        Check.same("log 1", x.log(1), 0);
        Check.same("place 1", x.place(1), 0);
        Check.same("waiting 7", x.waiting(7), 2);
        Check.yes("put", x.put(3, 5));
        Check.same("waiting 7", x.waiting(7), 2);
        Check.yes("put", x.put(7, 5));
        Check.same("state 0", x.state(0), AtomicThreads.READY);
        Check.same("state 2", x.state(2), AtomicThreads.READY);
        Check.same("waiting 7", x.waiting(7), 0);
        Check.same("commits", x.commits(), 3);
        Check.same("version 7", x.version(7), 3);
        Check.same("version 1", x.version(1), 1);
        Check.same("a new attempt sees it", x.step(1), 0);
        Words.steps(x, 1, 1);
        Check.same("register", x.register(1, 0), 5);
        Check.same("a READY reader does not wait", x.waiting(1), 0);
        Check.same("idle thread", x.state(3), AtomicThreads.IDLE);
    }

    private static void wokenByPutOfTheSameValue() {
        AtomicThreads x = Words.started("ATOMIC; READ 0 2; RETRY; END");
        x.put(2, 4);
        x.run(0, 3);
        Check.same("state", x.state(0), AtomicThreads.PARKED);
        Check.yes("put", x.put(2, 4));
        Check.same("state", x.state(0), AtomicThreads.READY);
        Check.same("version", x.version(2), 2);
        Check.same("value", x.value(2), 4);
    }

    private static void wokenByCommit() {
        AtomicThreads x = Words.started("ATOMIC; READ 0 2; RETRY; END");
        Words.load(x, 1, "ATOMIC; READ 0 5; RETRY; END");
        Words.load(x, 2, "ATOMIC; READ 0 4; RETRY; END");
        Words.load(x, 3, "ATOMIC; WRITE 5 0; WRITE 2 0; WRITE 0 0; END");
        x.run(0, 3);
        x.run(0x55, 3);
        x.run(0xAA, 3);
        Words.steps(x, 3, 4);
        Check.same("WRITE wakes nobody", x.waiting(2), 1);
        Check.same("step", x.step(3), 1);
        Check.same("state 0", x.state(0), AtomicThreads.READY);
        Check.same("state 1", x.state(1), AtomicThreads.READY);
        Check.same("state 2", x.state(2), AtomicThreads.PARKED);
        Check.same("log 0", x.log(0), 0);
        Check.same("log 2", x.log(2), 16);
        Check.same("commits", x.commits(), 1);
    }

    private static void notWokenByReaders() {
        AtomicThreads x = Words.started("ATOMIC; READ 0 2; RETRY; END");
        Words.load(x, 1, "ATOMIC; READ 0 2; END; ATOMIC; READ 0 2; WRITE 3 0; END");
        x.run(0, 3);
        Check.same("run", x.run(0x55555555, 16), 7);
        Check.same("commits", x.commits(), 1);
        Check.same("state", x.state(0), AtomicThreads.PARKED);
    }

    private static void secondPart() {
        AtomicThreads x = Words.started("ATOMIC; SET 0 1; WRITE 0 0; EITHER; SET 0 2; WRITE 0 0; WRITE 1 0; READ 1 4; RETRY; OR; SET 2 3; END; END");
        Words.steps(x, 0, 8);
        Check.same("log", x.log(0), 16 + 256 * 3);
        Check.same("sees", x.sees(0, 0), 2);
        Check.same("RETRY", x.step(0), 0);
        Check.same("place", x.place(0), 10);
        Check.same("register", x.register(0, 0), 1);
        Check.same("log", x.log(0), 16 + 256);
        Check.same("sees 0", x.sees(0, 0), 1);
        Check.same("sees 1", x.sees(0, 1), 0);
        Words.steps(x, 0, 1);
        Check.same("place", x.place(0), 11);
        Words.steps(x, 0, 1);
        Check.same("place", x.place(0), 12);
        x.put(4, 0);
        Check.same("the read set stays", x.step(0), 2);
        x.run(0, 11);
        Check.same("step", x.step(0), 1);
        Check.same("value 0", x.value(0), 1);
        Check.same("value 1", x.value(1), 0);
        Check.same("version 1", x.version(1), 0);
    }

    private static void eitherWithoutRetry() {
        AtomicThreads x = Words.started("ATOMIC; EITHER; SET 0 2; WRITE 0 0; OR; SET 2 3; END; RETRY; END");
        Words.steps(x, 0, 4);
        Check.same("place", x.place(0), 4);
        Words.steps(x, 0, 1);
        Check.same("place", x.place(0), 7);
        Check.same("register", x.register(0, 0), 2);
        Check.same("sees", x.sees(0, 0), 2);
        Check.same("its first part has ended", x.step(0), 3);
    }

    private static void nestedEithers() {
        AtomicThreads x = Words.started("ATOMIC; EITHER; SET 0 1; EITHER; SET 1 2; RETRY; OR; RETRY; END; OR; SET 2 3; END; RETRY; END");
        Words.steps(x, 0, 6);
        Check.same("the inner is the latest", x.place(0), 7);
        Check.same("register 0", x.register(0, 0), 1);
        Check.same("register 1", x.register(0, 1), 0);
        Words.steps(x, 0, 1);
        Check.same("then the outer", x.place(0), 10);
        Check.same("register 0", x.register(0, 0), 0);
        Words.steps(x, 0, 2);
        Check.same("then none", x.step(0), 3);
    }

    private static void retryInSecondPart() {
        AtomicThreads x = Words.started("ATOMIC; EITHER; READ 0 1; RETRY; OR; READ 0 2; RETRY; END; END");
        Words.steps(x, 0, 5);
        Check.same("step", x.step(0), 3);
        Check.same("both read sets", x.log(0), 2 + 4);
        x.put(1, 1);
        Check.same("state", x.state(0), AtomicThreads.READY);
        Words.steps(x, 0, 5);
        Check.same("step", x.step(0), 3);
    }

    private static void retryEndsFirstPartsWithin() {
        AtomicThreads x = Words.started("ATOMIC; EITHER; TRY; RETRY; CATCH 1; END; OR; SET 0 5; THROW 0; END; END");
        Words.steps(x, 0, 4);
        Check.same("place", x.place(0), 7);
        Words.steps(x, 0, 1);
        Check.same("step", x.step(0), 4);
        Check.same("the TRY has ended too", x.state(0), AtomicThreads.FAILED);
        Check.same("register 0", x.register(0, 0), 5);
        Check.same("register 1", x.register(0, 1), 0);
    }

    private static void retryKeepsOuterTry() {
        AtomicThreads x = Words.started("ATOMIC; TRY; EITHER; RETRY; OR; SET 0 5; THROW 0; END; CATCH 1; END; END");
        Words.steps(x, 0, 5);
        Check.same("step", x.step(0), 4);
        Check.same("place", x.place(0), 9);
        Check.same("register 1", x.register(0, 1), 5);
    }

    private static void retryNotesWrites() {
        AtomicThreads x = Words.started("ATOMIC; EITHER; SET 0 4; WRITE 3 0; RETRY; OR; READ 1 3; END; END");
        x.put(3, 9);
        Words.steps(x, 0, 5);
        Check.same("sees", x.sees(0, 3), 9);
        Words.steps(x, 0, 1);
        Check.same("register", x.register(0, 1), 9);
        Check.same("log", x.log(0), 8);
        Words.steps(x, 0, 1);
        Check.same("step", x.step(0), 1);
        Check.same("nothing was written", x.commits(), 1);
    }

    private static void parkedKeepsOuterTry() {
        AtomicThreads x = Words.started("TRY; ATOMIC; TRY; READ 0 1; IF 0; ELSE; RETRY; END; CATCH 2; END; END; THROW 0; CATCH 3; END");
        Words.steps(x, 0, 5);
        Check.same("step", x.step(0), 3);
        x.put(1, 6);
        x.run(0, 6);
        Check.same("place", x.place(0), 10);
        Check.same("step", x.step(0), 1);
        Check.same("step", x.step(0), 4);
        Check.same("place", x.place(0), 13);
        Check.same("register 3", x.register(0, 3), 6);
        Check.same("register 2", x.register(0, 2), 0);
    }

    private static void eitherInLoop() {
        AtomicThreads x = Words.started("SET 0 9; SET 1 1; ATOMIC; WHILE 0; EITHER; RETRY; OR; SUB 0 1; END; END; RETRY; END");
        for (int k = 0; k < 6; k++) {
            x.run(0, 16);
        }
        Check.same("state", x.state(0), AtomicThreads.PARKED);
        x = Words.started("SET 0 9; SET 1 1; ATOMIC; WHILE 0; EITHER; SUB 0 1; OR; END; END; EITHER; RETRY; OR; WRITE 0 1; END; END");
        for (int k = 0; k < 6; k++) {
            x.run(0, 16);
        }
        Check.same("state", x.state(0), AtomicThreads.DONE);
        Check.same("value", x.value(0), 1);
    }

    private static void outcomes() {
        AtomicThreads x = new AtomicThreads();
        Check.same("all IDLE", x.outcome(), 1);
        Words.load(x, 3, "SET 0 1");
        Check.same("one READY", x.outcome(), 0);
        Words.load(x, 1, "ATOMIC; READ 0 0; RETRY; END");
        x.run(0x55, 3);
        Check.same("one READY and one PARKED", x.outcome(), 0);
        x.step(3);
        Check.same("one PARKED", x.outcome(), 2);
        x.put(0, 1);
        Check.same("woken", x.outcome(), 0);
        x.stop(1);
        Check.same("stopped", x.outcome(), 1);
        Words.load(x, 0, "THROW 0");
        x.step(0);
        Check.same("FAILED and DONE", x.outcome(), 1);
    }
}
