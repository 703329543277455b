/** Promises 7 (step) and 15 (register): what the words do that need no attempt. */
public final class WordTest {
    public static void main(String[] args) {
        noStep();
        numbers();
        wrapAround();
        ifWithElse();
        ifWithoutElse();
        whileLoop();
        jumpsToTheEnd();
        tryWithoutThrow();
        throwIntoCatch();
        throwFromInnerToOuter();
        throwFromCatch();
        throwInLoop();
        failing();
        Check.end();
    }

    private static void noStep() {
        AtomicThreads x = new AtomicThreads();
        Check.same("IDLE", x.step(0), -1);
        Words.load(x, 0, "SET 0 1");
        Check.same("READY", x.step(0), 0);
        Check.same("DONE", x.step(0), -1);
        Words.load(x, 1, "ATOMIC; RETRY; END");
        Words.steps(x, 1, 1);
        Check.same("RETRY", x.step(1), 3);
        Check.same("PARKED", x.step(1), -1);
        Words.load(x, 2, "THROW 0");
        Check.same("THROW", x.step(2), 4);
        Check.same("FAILED", x.step(2), -1);
    }

    private static void numbers() {
        AtomicThreads x = Words.started("SET 0 -5; SET 1 7; ADD 0 1; SUB 1 0; ADD 1 1; SUB 0 0; SET 3 -2147483648");
        Words.steps(x, 0, 2);
        Check.same("register 0", x.register(0, 0), -5);
        Words.steps(x, 0, 1);
        Check.same("register 0", x.register(0, 0), 2);
        Check.same("register 1", x.register(0, 1), 7);
        Words.steps(x, 0, 1);
        Check.same("register 1", x.register(0, 1), 5);
        Words.steps(x, 0, 1);
        Check.same("register 1", x.register(0, 1), 10);
        Words.steps(x, 0, 2);
        Check.same("register 0", x.register(0, 0), 0);
        Check.same("register 3", x.register(0, 3), Integer.MIN_VALUE);
        Check.same("other thread", x.register(1, 1), 0);
    }

    private static void wrapAround() {
        AtomicThreads x = Words.started("SET 0 2147483647; SET 1 1; ADD 0 1; SET 2 -2147483648; SUB 2 1");
        Check.same("run", x.run(0, 5), 5);
        Check.same("sum", x.register(0, 0), Integer.MIN_VALUE);
        Check.same("difference", x.register(0, 2), Integer.MAX_VALUE);
    }

    private static void ifWithElse() {
        int[] values = {Integer.MIN_VALUE, -1, 0, 1, Integer.MAX_VALUE};
        for (int n : values) {
            AtomicThreads x = Words.started("SET 3 " + n + "; IF 3; SET 0 1; ELSE; SET 0 2; END; SET 1 3");
            Words.steps(x, 0, 2);
            Check.same("place behind IF of " + n, x.place(0), n > 0 ? 2 : 4);
            Words.steps(x, 0, 2);
            Check.same("place", x.place(0), 6);
            Words.steps(x, 0, 1);
            Check.same("register", x.register(0, 0), n > 0 ? 1 : 2);
            Check.same("state", x.state(0), AtomicThreads.DONE);
        }
    }

    private static void ifWithoutElse() {
        AtomicThreads x = Words.started("IF 3; IF 3; ELSE; END; SET 0 1; END; IF 3; END; SET 1 3");
        Words.steps(x, 0, 1);
        Check.same("place", x.place(0), 6);
        Words.steps(x, 0, 1);
        Check.same("place", x.place(0), 8);
        x = Words.started("SET 3 1; IF 3; SET 0 1; END; SET 1 1");
        Words.steps(x, 0, 3);
        Check.same("place", x.place(0), 3);
        Words.steps(x, 0, 1);
        Check.same("place", x.place(0), 4);
    }

    private static void whileLoop() {
        AtomicThreads x = Words.started("SET 0 3; SET 1 1; WHILE 0; PRINT 0; SUB 0 1; END; SET 2 7");
        Check.same("run", x.run(0, 15), 15);
        Check.same("place", x.place(0), 6);
        Check.same("printed", x.printed(-1), 3);
        Check.same("printed", x.printed(0), 1);
        Check.same("printed", x.printed(2), 3);
        Words.steps(x, 0, 1);
        Check.same("state", x.state(0), AtomicThreads.DONE);
        x = Words.started("SET 0 -1; WHILE 0; SET 1 1; END; SET 2 7");
        Words.steps(x, 0, 2);
        Check.same("place", x.place(0), 4);
        x = Words.started("SET 0 1; WHILE 0; END");
        Words.steps(x, 0, 3);
        Check.same("END goes on to the WHILE", x.place(0), 1);
    }

    private static void doneAfter(int n, String text) {
        AtomicThreads x = Words.started(text);
        Words.steps(x, 0, n - 1);
        Check.same("state before, " + text, x.state(0), AtomicThreads.READY);
        Words.steps(x, 0, 1);
        Check.same("state, " + text, x.state(0), AtomicThreads.DONE);
        Check.same("place, " + text, x.place(0), -1);
    }

    private static void jumpsToTheEnd() {
        doneAfter(1, "IF 0; END");
        doneAfter(2, "IF 0; ELSE; END");
        doneAfter(1, "WHILE 0; END");
        doneAfter(3, "SET 0 1; IF 0; ELSE; END");
        doneAfter(2, "TRY; CATCH; SET 0 1; END");
        doneAfter(1, "PRINT 0");
    }

    private static void tryWithoutThrow() {
        AtomicThreads x = Words.started("TRY; SET 0 5; CATCH 0; SET 0 6; END; THROW 0");
        Words.steps(x, 0, 2);
        Check.same("place", x.place(0), 2);
        Words.steps(x, 0, 1);
        Check.same("place", x.place(0), 5);
        Check.same("register stays", x.register(0, 0), 5);
        Check.same("its first part has ended", x.step(0), 4);
        Check.same("state", x.state(0), AtomicThreads.FAILED);
    }

    private static void throwIntoCatch() {
        AtomicThreads x = Words.started("SET 0 1; SET 1 2; TRY; SET 0 7; SET 1 8; SET 2 9; THROW 2; CATCH 1; END; SET 3 1");
        Words.steps(x, 0, 6);
        Check.same("step", x.step(0), 4);
        Check.same("state", x.state(0), AtomicThreads.READY);
        Check.same("place", x.place(0), 8);
        Check.same("register 0", x.register(0, 0), 1);
        Check.same("register 1", x.register(0, 1), 9);
        Check.same("register 2", x.register(0, 2), 0);
        Words.steps(x, 0, 1);
        Check.same("END of a TRY does nothing", x.place(0), 9);
    }

    private static void throwFromInnerToOuter() {
        AtomicThreads x = Words.started("TRY; SET 0 1; TRY; SET 1 4; CATCH 2; END; THROW 1; CATCH 3; END; PRINT 3");
        Words.steps(x, 0, 5);
        Check.same("the inner has ended", x.step(0), 4);
        Check.same("place", x.place(0), 8);
        Check.same("register 0", x.register(0, 0), 0);
        Check.same("register 2", x.register(0, 2), 0);
        Check.same("register 3", x.register(0, 3), 4);
        x = Words.started("TRY; SET 0 1; TRY; SET 1 4; THROW 1; CATCH 2; END; CATCH 3; END; PRINT 3");
        Words.steps(x, 0, 4);
        Check.same("the inner is the latest", x.step(0), 4);
        Check.same("place", x.place(0), 6);
        Check.same("register 0", x.register(0, 0), 1);
        Check.same("register 1", x.register(0, 1), 0);
        Check.same("register 2", x.register(0, 2), 4);
        Words.steps(x, 0, 2);
        Check.same("place", x.place(0), 9);
    }

    private static void throwFromCatch() {
        AtomicThreads x = Words.started("TRY; TRY; SET 0 5; THROW 0; CATCH 1; THROW 1; END; CATCH 2; THROW 2; END");
        Words.steps(x, 0, 3);
        Check.same("step", x.step(0), 4);
        Check.same("place", x.place(0), 5);
        Check.same("step", x.step(0), 4);
        Check.same("place", x.place(0), 8);
        Check.same("register 1", x.register(0, 1), 0);
        Check.same("register 2", x.register(0, 2), 5);
        Check.same("step", x.step(0), 4);
        Check.same("state", x.state(0), AtomicThreads.FAILED);
        Check.same("register 0", x.register(0, 0), 5);
        Check.same("register 2", x.register(0, 2), 5);
    }

    /** First parts that end leave room for those of the next rounds. */
    private static void throwInLoop() {
        AtomicThreads x = Words.started("SET 0 9; SET 1 1; WHILE 0; TRY; THROW 0; CATCH 2; SUB 0 1; END; END; THROW 0");
        for (int k = 0; k < 10; k++) {
            x.run(0, 16);
        }
        Check.same("state", x.state(0), AtomicThreads.FAILED);
        Check.same("register 2", x.register(0, 2), 1);
        x = Words.started("SET 0 9; SET 1 1; WHILE 0; TRY; SUB 0 1; CATCH 2; END; END; TRY; THROW 1; CATCH 3; END");
        for (int k = 0; k < 10; k++) {
            x.run(0, 16);
        }
        Check.same("state", x.state(0), AtomicThreads.DONE);
        Check.same("register 3", x.register(0, 3), 1);
    }

    private static void failing() {
        AtomicThreads x = Words.started("SET 0 1; SET 2 -3; THROW 2; SET 1 1");
        Words.steps(x, 0, 2);
        Check.same("step", x.step(0), 4);
        Check.same("state", x.state(0), AtomicThreads.FAILED);
        Check.same("place", x.place(0), -1);
        Check.same("register 0", x.register(0, 0), -3);
        Check.same("register 2", x.register(0, 2), -3);
        Check.same("outcome", x.outcome(), 1);
    }
}
