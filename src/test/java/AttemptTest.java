/** Promises 7, 10 to 12, 16, 17 and 19: attempts that are committed or discarded. */
public final class AttemptTest {
    public static void main(String[] args) {
        commits();
        commitWithNothingWritten();
        commitOfTheSameValue();
        readsItsOwnWrite();
        staleAtRead();
        staleAtEnd();
        staleWithoutReading();
        staleSinceTheAttemptBegan();
        discardKeepsOuterTry();
        discardEndsInnerFirstParts();
        discardIsCounted();
        twoThreads();
        commitAsLastWord();
        commitInTry();
        allVariables();
        Check.end();
    }

    private static void commits() {
        AtomicThreads x = Words.started("ATOMIC; SET 0 5; WRITE 2 0; SET 0 6; WRITE 2 0; WRITE 7 0; END; PRINT 0");
        x.put(1, 1);
        Words.steps(x, 0, 3);
        Check.same("sees", x.sees(0, 2), 5);
        Check.same("log", x.log(0), 256 * 4);
        Words.steps(x, 0, 3);
        Check.same("sees its own", x.sees(0, 2), 6);
        Check.same("sees another's", x.sees(0, 1), 1);
        Check.same("another sees", x.sees(1, 2), 0);
        Check.same("log", x.log(0), 256 * (4 + 128));
        Check.same("value before", x.value(2), 0);
        Check.same("commits before", x.commits(), 1);
        Check.same("step", x.step(0), 1);
        Check.same("place", x.place(0), 7);
        Check.same("commits", x.commits(), 2);
        Check.same("value 2", x.value(2), 6);
        Check.same("version 2", x.version(2), 2);
        Check.same("value 7", x.value(7), 6);
        Check.same("version 7", x.version(7), 2);
        Check.same("version 1", x.version(1), 1);
        Check.same("version 0", x.version(0), 0);
        Check.same("log", x.log(0), 0);
        Check.same("register stays", x.register(0, 0), 6);
        x.put(2, 9);
        Check.same("sees the value again", x.sees(0, 2), 9);
    }

    private static void commitWithNothingWritten() {
        AtomicThreads x = Words.started("ATOMIC; READ 0 3; END; PRINT 0");
        x.put(3, 4);
        Words.steps(x, 0, 2);
        Check.same("log", x.log(0), 8);
        Check.same("step", x.step(0), 1);
        Check.same("commits", x.commits(), 1);
        Check.same("version", x.version(3), 1);
        Check.same("log", x.log(0), 0);
        Check.same("register", x.register(0, 0), 4);
    }

    private static void commitOfTheSameValue() {
        AtomicThreads x = Words.started("ATOMIC; WRITE 3 0; END");
        Words.load(x, 1, "ATOMIC; READ 0 3; END");
        Words.steps(x, 1, 2);
        Words.steps(x, 0, 2);
        Check.same("step", x.step(0), 1);
        Check.same("version", x.version(3), 1);
        Check.same("value", x.value(3), 0);
        Check.same("the reader is discarded", x.step(1), 2);
    }

    private static void readsItsOwnWrite() {
        AtomicThreads x = Words.started("ATOMIC; SET 0 5; WRITE 2 0; READ 1 2; END");
        Words.steps(x, 0, 3);
        x.put(2, 8);
        Words.steps(x, 0, 1);
        Check.same("register", x.register(0, 1), 5);
        Check.same("it is not in the read set", x.log(0), 256 * 4);
        Check.same("a written one may be stale", x.step(0), 1);
        Check.same("value", x.value(2), 5);
        Check.same("version", x.version(2), 2);
    }

    private static void staleAtRead() {
        AtomicThreads x = Words.started("SET 0 1; ATOMIC; SET 0 2; WRITE 5 0; READ 1 3; END");
        Words.steps(x, 0, 4);
        x.put(3, 4);
        Check.same("step", x.step(0), 2);
        Check.same("state", x.state(0), AtomicThreads.READY);
        Check.same("place", x.place(0), 1);
        Check.same("register 0", x.register(0, 0), 1);
        Check.same("register 1", x.register(0, 1), 0);
        Check.same("log", x.log(0), 0);
        Check.same("sees", x.sees(0, 5), 0);
        Check.same("value", x.value(5), 0);
        Words.steps(x, 0, 4);
        Check.same("register 1", x.register(0, 1), 4);
        Check.same("step", x.step(0), 1);
        Check.same("value", x.value(5), 2);
    }

    private static void staleAtEnd() {
        AtomicThreads x = Words.started("ATOMIC; READ 1 3; SET 2 6; WRITE 3 2; WRITE 4 2; END; PRINT 0");
        Words.steps(x, 0, 5);
        Check.same("log", x.log(0), 8 + 256 * (8 + 16));
        x.put(3, 0);
        Check.same("put does not change what it sees", x.sees(0, 3), 6);
        Check.same("step", x.step(0), 2);
        Check.same("commits", x.commits(), 1);
        Check.same("value", x.value(4), 0);
        Check.same("place", x.place(0), 0);
        Check.same("register", x.register(0, 2), 0);
        Words.steps(x, 0, 5);
        Check.same("step", x.step(0), 1);
    }

    private static void staleWithoutReading() {
        AtomicThreads x = Words.started("ATOMIC; READ 1 3; END; PRINT 0");
        Words.steps(x, 0, 2);
        x.put(2, 1);
        x.put(4, 1);
        Check.same("others do not matter", x.step(0), 1);
    }

    private static void staleSinceTheAttemptBegan() {
        AtomicThreads x = Words.started("ATOMIC; READ 1 3; END; PRINT 0");
        x.put(3, 1);
        Words.steps(x, 0, 1);
        x.put(2, 1);
        Words.steps(x, 0, 1);
        Check.same("register", x.register(0, 1), 1);
        Check.same("an older change does not matter", x.step(0), 1);
    }

    private static void discardKeepsOuterTry() {
        AtomicThreads x = Words.started("TRY; SET 0 1; ATOMIC; READ 1 3; END; SET 2 5; THROW 2; CATCH 3; END; PRINT 3");
        Words.steps(x, 0, 4);
        x.put(3, 3);
        Check.same("step", x.step(0), 2);
        Check.same("place", x.place(0), 2);
        Words.steps(x, 0, 2);
        Check.same("step", x.step(0), 1);
        Words.steps(x, 0, 1);
        Check.same("step", x.step(0), 4);
        Check.same("place", x.place(0), 8);
        Check.same("register 0", x.register(0, 0), 0);
        Check.same("register 1", x.register(0, 1), 0);
        Check.same("register 3", x.register(0, 3), 5);
    }

    private static void discardEndsInnerFirstParts() {
        String text = "SET 0 1; ATOMIC; IF 0; READ 1 3; IF 1; SET 2 7; THROW 2; END; TRY; READ 3 4; CATCH 3; END; END; END";
        AtomicThreads x = Words.started(text);
        Words.steps(x, 0, 6);
        x.put(4, 1);
        x.put(3, 1);
        Check.same("place", x.place(0), 9);
        Check.same("step", x.step(0), 2);
        Words.steps(x, 0, 5);
        Check.same("step", x.step(0), 4);
        Check.same("no first part is left", x.state(0), AtomicThreads.FAILED);
    }

    private static void discardIsCounted() {
        AtomicThreads x = Words.started("ATOMIC; READ 1 3; END");
        Words.load(x, 1, "ATOMIC; READ 1 3; RETRY; END");
        for (int k = 1; k <= 3; k++) {
            Words.steps(x, 0, 2);
            x.put(3, k);
            Check.same("run", x.run(0, 1), 1);
            Check.same("discards", x.discards(0), k);
        }
        Words.steps(x, 1, 2);
        Check.same("step", x.step(1), 3);
        Check.same("a parked one does not count", x.discards(1), 0);
        x.put(3, 7);
        Check.same("a woken one does not count", x.discards(1), 0);
        Words.steps(x, 1, 2);
        x.put(3, 8);
        Check.same("step", x.step(1), 2);
        Check.same("discards", x.discards(1), 1);
        x.stop(1);
        Check.same("discards after stop", x.discards(1), 1);
        x.cut(1, 0);
        Check.same("discards after cut", x.discards(1), 1);
        Check.same("discards of the other", x.discards(0), 3);
        Check.same("discards of one never started", x.discards(2), 0);
    }

    private static void twoThreads() {
        AtomicThreads x = Words.started("ATOMIC; READ 0 0; SET 1 1; ADD 0 1; WRITE 0 0; END");
        Words.load(x, 1, "ATOMIC; READ 0 0; SET 1 1; ADD 0 1; WRITE 0 0; END");
        Check.same("run", x.run(0x444444, 12), 12);
        Check.same("value", x.value(0), 1);
        Check.same("discards", x.discards(0) + x.discards(1), 1);
        x.run(0x55555555, 16);
        x.run(0, 16);
        Check.same("value", x.value(0), 2);
        Check.same("commits", x.commits(), 2);
    }

    private static void commitAsLastWord() {
        AtomicThreads x = Words.started("ATOMIC; WRITE 0 0; END");
        Words.steps(x, 0, 2);
        Check.same("step", x.step(0), 1);
        Check.same("state", x.state(0), AtomicThreads.DONE);
        Check.same("log", x.log(0), 0);
    }

    /** The CATCH must end its TRY and nothing that the attempt left behind. */
    private static void commitInTry() {
        AtomicThreads x = Words.started("TRY; SET 1 5; ATOMIC; WRITE 0 1; END; CATCH 0; END; THROW 1");
        Words.steps(x, 0, 4);
        Check.same("step", x.step(0), 1);
        Words.steps(x, 0, 1);
        Check.same("place", x.place(0), 7);
        Check.same("step", x.step(0), 4);
        Check.same("state", x.state(0), AtomicThreads.FAILED);
        Check.same("value", x.value(0), 5);
    }

    private static void allVariables() {
        for (int v = 0; v < 8; v++) {
            AtomicThreads x = Words.started("ATOMIC; READ 3 " + v + "; SET 2 " + (v + 10) + "; WRITE " + v + " 2; END");
            x.put(v, v + 20);
            Words.steps(x, 0, 2);
            Check.same("register", x.register(0, 3), v + 20);
            Check.same("log", x.log(0), 1 << v);
            Words.steps(x, 0, 2);
            Check.same("log", x.log(0), (1 << v) + 256 * (1 << v));
            Check.same("sees", x.sees(0, v), v + 10);
            Check.same("step", x.step(0), 1);
            for (int w = 0; w < 8; w++) {
                Check.same("value " + w, x.value(w), w == v ? v + 10 : 0);
                Check.same("version " + w, x.version(w), w == v ? 2 : 0);
            }
        }
    }
}
