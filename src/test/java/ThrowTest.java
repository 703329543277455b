/** Promise 7: THROW and TRY in an attempt, and out of one. */
public final class ThrowTest {
    public static void main(String[] args) {
        caughtInTheAttempt();
        caughtWithStaleReads();
        readSetStays();
        thrownOutOfTheAttempt();
        thrownOutToOuterTry();
        thrownOutIsStale();
        tryInAttemptHasEnded();
        throwEndsFirstPartsWithin();
        throwKeepsOuterEither();
        failedWakesNobody();
        catchRegisterIsTheThrown();
        Check.end();
    }

    private static void caughtInTheAttempt() {
        AtomicThreads x = Words.started("ATOMIC; SET 0 1; WRITE 0 0; TRY; SET 0 2; WRITE 0 0; WRITE 1 0; SET 1 8; THROW 1; CATCH 2; END; END");
        Words.steps(x, 0, 8);
        Check.same("log", x.log(0), 256 * 3);
        Check.same("step", x.step(0), 4);
        Check.same("place", x.place(0), 10);
        Check.same("register 0", x.register(0, 0), 1);
        Check.same("register 1", x.register(0, 1), 0);
        Check.same("register 2", x.register(0, 2), 8);
        Check.same("log", x.log(0), 256);
        Check.same("sees 0", x.sees(0, 0), 1);
        Check.same("sees 1", x.sees(0, 1), 0);
        Words.steps(x, 0, 1);
        Check.same("step", x.step(0), 1);
        Check.same("value 0", x.value(0), 1);
        Check.same("version 1", x.version(1), 0);
    }

    private static void caughtWithStaleReads() {
        AtomicThreads x = Words.started("ATOMIC; TRY; READ 0 3; THROW 0; CATCH 2; END; END");
        Words.steps(x, 0, 3);
        x.put(3, 5);
        Check.same("a caught one does not look", x.step(0), 4);
        Check.same("place", x.place(0), 5);
        Words.steps(x, 0, 1);
        Check.same("END does", x.step(0), 2);
        Check.same("discards", x.discards(0), 1);
    }

    private static void readSetStays() {
        AtomicThreads x = Words.started("ATOMIC; TRY; READ 0 3; THROW 0; CATCH 2; END; RETRY; END");
        Words.steps(x, 0, 3);
        Check.same("step", x.step(0), 4);
        Check.same("log", x.log(0), 8);
        Words.steps(x, 0, 1);
        Check.same("step", x.step(0), 3);
        Check.same("waiting", x.waiting(3), 1);
    }

    private static void thrownOutOfTheAttempt() {
        AtomicThreads x = Words.started("SET 0 1; SET 1 2; ATOMIC; SET 1 7; SET 2 8; WRITE 4 2; READ 3 5; THROW 2; END");
        Words.steps(x, 0, 7);
        Check.same("step", x.step(0), 4);
        Check.same("state", x.state(0), AtomicThreads.FAILED);
        Check.same("register 0", x.register(0, 0), 8);
        Check.same("register 1", x.register(0, 1), 2);
        Check.same("register 2", x.register(0, 2), 0);
        Check.same("log", x.log(0), 0);
        Check.same("sees", x.sees(0, 4), 0);
        Check.same("value", x.value(4), 0);
        Check.same("commits", x.commits(), 0);
        Check.same("discards", x.discards(0), 0);
    }

    private static void thrownOutToOuterTry() {
        AtomicThreads x = Words.started("SET 0 1; TRY; SET 0 2; ATOMIC; SET 0 3; WRITE 4 0; THROW 0; END; CATCH 1; END; THROW 1");
        Words.steps(x, 0, 6);
        Check.same("step", x.step(0), 4);
        Check.same("state", x.state(0), AtomicThreads.READY);
        Check.same("place", x.place(0), 9);
        Check.same("register 0", x.register(0, 0), 1);
        Check.same("register 1", x.register(0, 1), 3);
        Check.same("log", x.log(0), 0);
        Words.steps(x, 0, 1);
        Check.same("step", x.step(0), 4);
        Check.same("state", x.state(0), AtomicThreads.FAILED);
        Check.same("value", x.value(4), 0);
    }

    private static void thrownOutIsStale() {
        AtomicThreads x = Words.started("TRY; ATOMIC; READ 0 3; SET 1 4; THROW 1; END; CATCH 2; END");
        Words.steps(x, 0, 4);
        x.put(3, 5);
        Check.same("step", x.step(0), 2);
        Check.same("place", x.place(0), 1);
        Check.same("register", x.register(0, 1), 0);
        Check.same("register of the CATCH", x.register(0, 2), 0);
        Check.same("discards", x.discards(0), 1);
        Words.steps(x, 0, 3);
        Check.same("step", x.step(0), 4);
        Check.same("place", x.place(0), 7);
        Check.same("register of the CATCH", x.register(0, 2), 4);
    }

    private static void tryInAttemptHasEnded() {
        AtomicThreads x = Words.started("ATOMIC; TRY; SET 0 5; CATCH 1; END; THROW 0; END");
        Words.steps(x, 0, 4);
        Check.same("step", x.step(0), 4);
        Check.same("state", x.state(0), AtomicThreads.FAILED);
        Check.same("register", x.register(0, 1), 0);
        Check.same("register", x.register(0, 0), 5);
    }

    private static void throwEndsFirstPartsWithin() {
        AtomicThreads x = Words.started("ATOMIC; TRY; EITHER; THROW 0; OR; END; CATCH 1; RETRY; END; END");
        Words.steps(x, 0, 3);
        Check.same("step", x.step(0), 4);
        Check.same("place", x.place(0), 7);
        Check.same("the EITHER has ended too", x.step(0), 3);
    }

    private static void throwKeepsOuterEither() {
        AtomicThreads x = Words.started("ATOMIC; SET 0 3; EITHER; TRY; SET 0 4; THROW 0; CATCH 1; RETRY; END; OR; END; END");
        Words.steps(x, 0, 5);
        Check.same("step", x.step(0), 4);
        Check.same("register 1", x.register(0, 1), 4);
        Words.steps(x, 0, 1);
        Check.same("place", x.place(0), 10);
        Check.same("register 0", x.register(0, 0), 3);
        Check.same("register 1", x.register(0, 1), 0);
    }

    private static void failedWakesNobody() {
        AtomicThreads x = Words.started("ATOMIC; READ 0 2; RETRY; END");
        Words.load(x, 1, "ATOMIC; WRITE 2 0; THROW 0; END");
        x.run(0, 3);
        x.run(0x55, 3);
        Check.same("state 1", x.state(1), AtomicThreads.FAILED);
        Check.same("state 0", x.state(0), AtomicThreads.PARKED);
        Check.same("version", x.version(2), 0);
    }

    private static void catchRegisterIsTheThrown() {
        for (int r = 0; r < 4; r++) {
            AtomicThreads x = Words.started("SET " + r + " 1; TRY; SET " + r + " 2; THROW " + r + "; CATCH " + r + "; END; PRINT " + r);
            Words.steps(x, 0, 3);
            Check.same("step", x.step(0), 4);
            for (int s = 0; s < 4; s++) {
                Check.same("register", x.register(0, s), s == r ? 2 : 0);
            }
        }
    }
}
