/** Promises 10 to 21: the boundary cases, a test for each sentence that names one. */
public final class AnswerBoundaryTest {
    private static final int[] ANY_THREAD = {0, 1, 2, 3};

    public static void main(String[] args) {
        valueOfNone();
        versionOfNone();
        commitsOfRefused();
        stateOfNone();
        placeOfNone();
        placeInOtherStates();
        placeAtTheEnds();
        registerOfNone();
        seesOfNone();
        seesWhatWasTakenBack();
        seesOutsideOfAnAttempt();
        logOfNone();
        logOfAll();
        logOfParked();
        logOutsideOfAnAttempt();
        waitingOfNone();
        waitingOfAll();
        waitingOfReady();
        discardsOfNone();
        discardsNeverStarted();
        discardsOfParkedAndStopped();
        discardsInStepAndRun();
        discardsUntilStarted();
        outcomes();
        printedOutOfRange();
        printedNotSoMany();
        printedCount();
        answersChangeNothing();
        Check.end();
    }

    private static AtomicThreads allPut() {
        AtomicThreads x = new AtomicThreads();
        for (int v = 0; v < 8; v++) {
            x.put(v, 100 + v);
        }
        return x;
    }

    private static void valueOfNone() {
        Check.about("value: The value of variable v; 0 when there is none.");
        AtomicThreads x = allPut();
        for (int v : Numbers.NO_VARIABLE) {
            Check.same("value(" + v + ")", x.value(v), 0);
        }
        for (int v = 0; v < 8; v++) {
            Check.same("value(" + v + ")", x.value(v), 100 + v);
        }
    }

    private static void versionOfNone() {
        Check.about("version: The version of variable v; 0 when there is none.");
        AtomicThreads x = allPut();
        for (int v : Numbers.NO_VARIABLE) {
            Check.same("version(" + v + ")", x.version(v), 0);
        }
        for (int v = 0; v < 8; v++) {
            Check.same("version(" + v + ")", x.version(v), v + 1);
        }
    }

    private static void commitsOfRefused() {
        Check.about("commits: The number of commits.");
        AtomicThreads x = Words.started("ATOMIC; READ 0 0; WRITE 1 0; WRITE 2 0; END; ATOMIC; END");
        Check.same("at first", x.commits(), 0);
        x.put(8, 1);
        x.put(-1, 1);
        Check.same("behind refused ones", x.commits(), 0);
        x.run(0, 4);
        x.put(0, 0);
        x.run(0, 1);
        Check.same("behind a discarded one", x.commits(), 1);
        x.run(0, 5);
        Check.same("behind one with two variables", x.commits(), 2);
        x.run(0, 2);
        Check.same("behind one without", x.commits(), 2);
        Check.same("state", x.state(0), AtomicThreads.DONE);
    }

    private static void stateOfNone() {
        Check.about("state: The state of thread t; -1 when there is none.");
        AtomicThreads x = Scene.made();
        for (int t : Numbers.NO_THREAD) {
            Check.same("state(" + t + ")", x.state(t), -1);
        }
        Check.same("state(0)", x.state(0), 1);
        Check.same("state(1)", x.state(1), 2);
        Check.same("state(2)", x.state(2), 4);
        Check.same("state(3)", x.state(3), 3);
        x.stop(0);
        Check.same("state(0)", x.state(0), 0);
    }

    private static void placeOfNone() {
        Check.about("place: .. -1 .. when there is none.");
        AtomicThreads x = Scene.made();
        for (int t : Numbers.NO_THREAD) {
            Check.same("place(" + t + ")", x.place(t), -1);
        }
    }

    private static void placeInOtherStates() {
        Check.about("place: The place of thread t when it is READY or PARKED; -1 otherwise");
        AtomicThreads x = Scene.made();
        Check.same("READY", x.place(0), 7);
        Check.same("PARKED", x.place(1), 1);
        Check.same("FAILED", x.place(2), -1);
        Check.same("DONE", x.place(3), -1);
        x.stop(0);
        x.stop(1);
        Check.same("stopped", x.place(0), -1);
        Check.same("stopped", x.place(1), -1);
        Check.same("never started", new AtomicThreads().place(0), -1);
    }

    private static void placeAtTheEnds() {
        Check.about("place: The place of thread t");
        for (int t : ANY_THREAD) {
            AtomicThreads x = new AtomicThreads();
            Words.load(x, t, "SET 0 1" + "; SET 0 1".repeat(29));
            Check.same("the first", x.place(t), 0);
            x.run(t * 0x55555555, 16);
            x.run(t * 0x55555555, 13);
            Check.same("the 30th", x.place(t), 29);
            x.step(t);
            Check.same("behind it", x.place(t), -1);
        }
    }

    private static void registerOfNone() {
        Check.about("register: The value of register r of thread t; 0 when there is no such thread or register.");
        AtomicThreads x = new AtomicThreads();
        for (int t : ANY_THREAD) {
            Words.load(x, t, "SET 0 4; SET 1 5; SET 2 6; SET 3 7");
            x.run(t * 0x55, 4);
        }
        for (int r : Numbers.NO_REGISTER) {
            Check.same("register(3, " + r + ")", x.register(3, r), 0);
            Check.same("register(" + r + ", 3)", x.register(r, 3), 0);
            Check.same("register(" + r + ", " + r + ")", x.register(r, r), 0);
        }
        for (int r = 0; r < 4; r++) {
            Check.same("register(0, " + r + ")", x.register(0, r), 4 + r);
            Check.same("register(3, " + r + ")", x.register(3, r), 4 + r);
        }
    }

    private static void seesOfNone() {
        Check.about("sees: .. 0 when there is no such thread or variable.");
        AtomicThreads x = allPut();
        Words.load(x, 3, "SET 0 9; ATOMIC; WRITE 0 0; WRITE 7 0; END");
        Words.steps(x, 3, 4);
        for (int t : Numbers.NO_THREAD) {
            Check.same("sees(" + t + ", 0)", x.sees(t, 0), 0);
        }
        for (int v : Numbers.NO_VARIABLE) {
            Check.same("sees(3, " + v + ")", x.sees(3, v), 0);
            Check.same("sees(" + v + ", " + v + ")", x.sees(v, v), 0);
        }
        Check.same("sees(3, 0)", x.sees(3, 0), 9);
        Check.same("sees(3, 7)", x.sees(3, 7), 9);
        Check.same("sees(3, 6)", x.sees(3, 6), 106);
        Check.same("sees(0, 7)", x.sees(0, 7), 107);
    }

    private static void seesWhatWasTakenBack() {
        Check.about("sees: .. (and that was not taken back by a RETRY or THROW)");
        AtomicThreads x = Words.started("SET 0 1; SET 1 2; ATOMIC; WRITE 3 0; EITHER; WRITE 3 1; WRITE 4 1; RETRY; OR; END;"
                + "TRY; WRITE 3 1; WRITE 5 1; THROW 0; CATCH 2; END; END");
        x.put(3, 7);
        Words.steps(x, 0, 7);
        Check.same("sees the last", x.sees(0, 3), 2);
        Check.same("sees", x.sees(0, 4), 2);
        Words.steps(x, 0, 1);
        Check.same("sees the one before", x.sees(0, 3), 1);
        Check.same("sees none", x.sees(0, 4), 0);
        x.put(4, 8);
        Check.same("sees the value", x.sees(0, 4), 8);
        Words.steps(x, 0, 4);
        Check.same("sees the last", x.sees(0, 3), 2);
        Check.same("THROW", x.step(0), 4);
        Check.same("sees the one before", x.sees(0, 3), 1);
        Check.same("sees none", x.sees(0, 5), 0);
        Check.same("value", x.value(3), 7);
    }

    private static void seesOutsideOfAnAttempt() {
        Check.about("sees: .. otherwise the value of variable v");
        AtomicThreads x = Words.started("SET 0 5; ATOMIC; WRITE 7 0; READ 1 1; IF 1; ELSE; RETRY; END; END; PRINT 0");
        x.put(7, 3);
        Check.same("READY", x.sees(0, 7), 3);
        Words.steps(x, 0, 3);
        Check.same("in the attempt", x.sees(0, 7), 5);
        Words.steps(x, 0, 2);
        Check.same("RETRY", x.step(0), 3);
        Check.same("PARKED", x.sees(0, 7), 3);
        x.put(1, 1);
        Check.same("woken", x.sees(0, 7), 3);
        Words.steps(x, 0, 4);
        Check.same("in the attempt", x.sees(0, 7), 5);
        x.stop(0);
        Check.same("stopped", x.sees(0, 7), 3);
        for (int t : ANY_THREAD) {
            Check.same("another", x.sees(t, 7), 3);
        }
    }

    private static void logOfNone() {
        Check.about("log: .. both are 0 when .. there is no thread t.");
        AtomicThreads x = Scene.made();
        for (int t : Numbers.NO_THREAD) {
            Check.same("log(" + t + ")", x.log(t), 0);
        }
        Check.same("log(0)", x.log(0), 1 + 16 + 256 * 4);
    }

    private static void logOfAll() {
        Check.about("log: The sum of 2^v over the variables v of the read set of thread t, plus 256 times the sum of 2^v over"
                + " the variables that its attempt has written");
        StringBuilder text = new StringBuilder("ATOMIC");
        for (int v = 0; v < 8; v++) {
            text.append("; READ 0 ").append(v).append("; WRITE ").append(7 - v).append(" 0; WRITE ").append(7 - v).append(" 0");
        }
        AtomicThreads x = Words.started(text + "; END");
        Check.same("before it", x.log(0), 0);
        Words.steps(x, 0, 1);
        Check.same("none", x.log(0), 0);
        Words.steps(x, 0, 1);
        Check.same("the least", x.log(0), 1);
        Words.steps(x, 0, 1);
        Check.same("the most", x.log(0), 1 + 256 * 128);
        Words.steps(x, 0, 9);
        Check.same("half of each", x.log(0), 15 + 256 * 240);
        Words.steps(x, 0, 13);
        Check.same("what it wrote is not read", x.log(0), 15 + 256 * 255);
        x = Words.started("ATOMIC; READ 0 0; READ 0 1; READ 0 2; READ 0 3; READ 0 4; READ 0 5; READ 0 6; READ 0 7; WRITE 7 0; END");
        Words.steps(x, 0, 10);
        Check.same("all read", x.log(0), 255 + 256 * 128);
    }

    private static void logOfParked() {
        Check.about("log: .. the second is 0 for a PARKED thread");
        AtomicThreads x = Words.started("ATOMIC; READ 0 7; READ 0 0; WRITE 7 0; WRITE 1 0; RETRY; END");
        Words.steps(x, 0, 5);
        Check.same("in the attempt", x.log(0), 129 + 256 * 130);
        Check.same("RETRY", x.step(0), 3);
        Check.same("PARKED", x.log(0), 129);
    }

    private static void logOutsideOfAnAttempt() {
        Check.about("log: .. both are 0 when it is neither in an attempt nor PARKED");
        AtomicThreads x = Words.started("SET 3 1; WHILE 3; ATOMIC; READ 0 7; WRITE 7 0; IF 1; THROW 1; END; END; ADD 1 3; END");
        Check.same("before it", x.log(0), 0);
        Words.steps(x, 0, 6);
        Check.same("in the attempt", x.log(0), 128 + 256 * 128);
        Check.same("END", x.step(0), 1);
        Check.same("committed", x.log(0), 0);
        x.run(0, 6);
        x.put(7, 1);
        Words.steps(x, 0, 1);
        Check.same("THROW", x.step(0), 2);
        Check.same("discarded", x.log(0), 0);
        Words.steps(x, 0, 4);
        Check.same("THROW", x.step(0), 4);
        Check.same("thrown out of", x.log(0), 0);
        x.start(0);
        x.run(0, 5);
        Check.same("in the attempt", x.log(0), 128 + 256 * 128);
        x.stop(0);
        Check.same("stopped", x.log(0), 0);
    }

    private static AtomicThreads allParked(String reads) {
        AtomicThreads x = new AtomicThreads();
        for (int t : ANY_THREAD) {
            Words.load(x, t, "ATOMIC; " + reads + "; RETRY; END");
            x.run(t * 0x55555555, 16);
            Check.same("state", x.state(t), AtomicThreads.PARKED);
        }
        return x;
    }

    private static void waitingOfNone() {
        Check.about("waiting: .. 0 when there is no variable v.");
        AtomicThreads x = allParked("READ 0 0; READ 0 1; READ 0 2; READ 0 3; READ 0 4; READ 0 5; READ 0 6; READ 0 7");
        for (int v : Numbers.NO_VARIABLE) {
            Check.same("waiting(" + v + ")", x.waiting(v), 0);
        }
        for (int v = 0; v < 8; v++) {
            Check.same("waiting(" + v + ")", x.waiting(v), 4);
        }
    }

    private static void waitingOfAll() {
        Check.about("waiting: How many PARKED threads have variable v in their read sets");
        AtomicThreads x = allParked("READ 0 0; READ 0 7");
        for (int t : ANY_THREAD) {
            Check.same("waiting(0)", x.waiting(0), 4 - t);
            Check.same("waiting(7)", x.waiting(7), 4 - t);
            Check.same("waiting(1)", x.waiting(1), 0);
            x.stop(t);
        }
        Check.same("waiting(0)", x.waiting(0), 0);
    }

    private static void waitingOfReady() {
        Check.about("waiting: How many PARKED threads");
        AtomicThreads x = Words.started("ATOMIC; READ 0 0; WRITE 1 0; RETRY; END");
        Words.steps(x, 0, 3);
        Check.same("READY with a read set", x.waiting(0), 0);
        Check.same("RETRY", x.step(0), 3);
        Check.same("PARKED", x.waiting(0), 1);
        Check.same("what it wrote", x.waiting(1), 0);
        x.put(0, 0);
        Check.same("woken", x.waiting(0), 0);
    }

    /** An object of which the thread t has had one attempt discarded and is READY. */
    private static AtomicThreads discardedOnce(int t) {
        AtomicThreads x = new AtomicThreads();
        Words.load(x, t, "ATOMIC; READ 0 0; RETRY; END");
        Words.steps(x, t, 2);
        x.put(0, 1);
        Check.same("RETRY", x.step(t), 2);
        return x;
    }

    private static void discardsOfNone() {
        Check.about("discards: .. 0 when there is no thread t");
        for (int t : ANY_THREAD) {
            AtomicThreads x = discardedOnce(t);
            for (int none : Numbers.NO_THREAD) {
                Check.same("discards(" + none + ")", x.discards(none), 0);
            }
            for (int u : ANY_THREAD) {
                Check.same("discards(" + u + ")", x.discards(u), u == t ? 1 : 0);
            }
        }
    }

    private static void discardsNeverStarted() {
        Check.about("discards: .. 0 when .. it was never started.");
        AtomicThreads x = discardedOnce(2);
        Check.same("no list", x.discards(1), 0);
        Words.append(x, 1, "SET 0 1");
        Check.same("not started", x.discards(1), 0);
        Words.append(x, 1, "END");
        x.start(1);
        Check.same("start refused", x.discards(1), 0);
    }

    private static void discardsOfParkedAndStopped() {
        Check.about("discards: .. (in step or run; those that were parked or stopped do not count)");
        AtomicThreads x = discardedOnce(0);
        Words.steps(x, 0, 2);
        Check.same("RETRY", x.step(0), 3);
        Check.same("parked", x.discards(0), 1);
        x.put(0, 2);
        Check.same("woken", x.discards(0), 1);
        Words.steps(x, 0, 2);
        x.put(0, 3);
        x.stop(0);
        Check.same("stopped", x.discards(0), 1);
        Check.yes("cut", x.cut(0, 4));
        Check.same("since it was started last", x.discards(0), 1);
        x.start(0);
        Check.same("started", x.discards(0), 0);
    }

    private static void discardsInStepAndRun() {
        Check.about("discards: How many attempts of thread t were discarded since it was started last (in step or run");
        AtomicThreads x = Words.started("ATOMIC; READ 0 0; END");
        for (int k = 0; k < 20; k++) {
            Check.same("discards", x.discards(0), k);
            x.run(0, 2);
            x.put(0, 0);
            if (k % 2 == 0) {
                Check.same("step", x.step(0), 2);
            } else {
                Check.same("run", x.run(0, 1), 1);
            }
        }
        Check.no("start that is refused", x.start(0));
        Check.same("discards", x.discards(0), 20);
        x.run(0, 3);
        Check.same("DONE", x.state(0), AtomicThreads.DONE);
        Check.same("discards", x.discards(0), 20);
    }

    private static void discardsUntilStarted() {
        Check.about("discards: .. since it was started last");
        AtomicThreads x = discardedOnce(0);
        x.stop(0);
        Words.append(x, 0, "IF 0");
        Check.same("after add", x.discards(0), 1);
        Check.no("start of a list that is not good", x.start(0));
        Check.same("after a refused start", x.discards(0), 1);
        Check.yes("cut", x.cut(0, 0));
        Check.same("after cut", x.discards(0), 1);
        Check.yes("start", x.start(0));
        Check.same("after start", x.discards(0), 0);
    }

    private static void outcomes() {
        Check.about("outcome: 0 when a thread is READY; otherwise 2 when one is PARKED ..; 1 when there is neither.");
        for (int t : ANY_THREAD) {
            AtomicThreads x = new AtomicThreads();
            Check.same("all IDLE", x.outcome(), 1);
            Words.load(x, t, "ATOMIC; READ 0 0; RETRY; END");
            Check.same("one READY", x.outcome(), 0);
            x.run(t * 0x55, 3);
            Check.same("one PARKED", x.outcome(), 2);
            int other = (t + 1) % 4;
            Words.load(x, other, "SET 0 1");
            Check.same("one READY, one PARKED", x.outcome(), 0);
            x.step(other);
            Check.same("one DONE, one PARKED", x.outcome(), 2);
            x.stop(t);
            Check.same("one DONE, one stopped", x.outcome(), 1);
        }
        AtomicThreads x = Scene.made();
        Check.same("one of each", x.outcome(), 0);
        x.stop(0);
        Check.same("all but READY", x.outcome(), 2);
        x.stop(1);
        Check.same("FAILED, DONE and IDLE", x.outcome(), 1);
        Check.same("all PARKED", allParked("READ 0 0").outcome(), 2);
    }

    /** An object that has printed 1, 2, .., count. */
    private static AtomicThreads prints(int count) {
        AtomicThreads x = Words.started("SET 0 1; WHILE 0; ADD 1 0; PRINT 1; END");
        Words.steps(x, 0, 1);
        for (int k = 0; k < count; k++) {
            Check.same("run", x.run(0, 4), 4);
        }
        return x;
    }

    private static void printedOutOfRange() {
        Check.about("printed: .. for k 0 .. 15; 0 when k is not so");
        AtomicThreads x = prints(40);
        for (int k : Numbers.outside(16)) {
            Check.same("printed(" + k + ")", x.printed(k), k == -1 ? 40 : 0);
        }
        Check.same("printed(0)", x.printed(0), 40);
        Check.same("printed(15)", x.printed(15), 25);
    }

    private static void printedNotSoMany() {
        Check.about("printed: The value that was printed k-th before the latest one (k = 0 is the latest itself), ..; 0 when ..."
                + " there are not so many.");
        for (int count = 0; count <= 34; count++) {
            AtomicThreads x = prints(count);
            for (int k = 0; k < 16; k++) {
                Check.same("printed(" + k + ") of " + count, x.printed(k), k < count ? count - k : 0);
            }
        }
    }

    private static void printedCount() {
        Check.about("printed: .. For k = -1: how many values have been printed in all.");
        for (int count : new int[] {0, 1, 15, 16, 17, 31, 32, 33, 100}) {
            Check.same("printed(-1)", prints(count).printed(-1), count);
        }
    }

    private static void answersChangeNothing() {
        Check.about("A call with a thread, variable, register or other number out of its range, or one that is refused, changes"
                + " nothing.");
        Scene.changesNothing("what only answers", x -> {
            for (int n : new int[] {Numbers.LEAST, -1, 0, 3, 4, 7, 8, 16, Numbers.MOST}) {
                Check.same("value and sees of none", n >= 0 && n < 8 ? 0 : x.value(n) | x.sees(n, n), 0);
                Check.same("version and waiting of none", n >= 0 && n < 8 ? 0 : x.version(n) | x.waiting(n), 0);
                Check.same("log and discards of none", n >= 0 && n < 4 ? 0 : x.log(n) | x.discards(n) | x.register(n, n), 0);
                Check.same("state and place of none", n >= 0 && n < 4 ? -1 : x.state(n) & x.place(n), -1);
                Check.same("printed of none", n >= -1 && n < 16 ? 0 : x.printed(n), 0);
            }
        });
    }
}
