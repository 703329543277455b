/** "Terms", the states and the steps: the boundary cases, a test for each sentence that names one. */
public final class StepBoundaryTest {
    private static final String FILL = "; SET 1 1".repeat(26);

    public static void main(String[] args) {
        idle();
        doneAtOnce();
        doneFromFarAway();
        wraps();
        ifAboveZero();
        whileAboveZero();
        firstPartHasEnded();
        attemptBeginsEmpty();
        staleSinceItBegan();
        staleByTheSameValue();
        readOfWhatWasWritten();
        readOfStale();
        readOfStaleAgain();
        writeIsNotSeen();
        endWithStaleReads();
        endWithNothingWritten();
        endWithAllTakenBack();
        endInALoop();
        retryWithNoneLeft();
        retryWithNothingRead();
        retryWithStaleReads();
        retryOutOfFive();
        throwWithNoneLeft();
        throwWithStaleReads();
        throwOutsideWithNone();
        throwOutOfFive();
        innerFirstPartsEndToo();
        discarded();
        parked();
        Check.end();
    }

    private static void idle() {
        Check.about("IDLE (0): not started, or stopped since, or add or cut answered true since.");
        AtomicThreads x = new AtomicThreads();
        Words.append(x, 0, "SET 0 1");
        Check.same("not started", x.state(0), 0);
        x.start(0);
        x.stop(0);
        Check.same("stopped", x.state(0), 0);
        x.start(0);
        x.step(0);
        Check.no("add that is refused", x.add(0, 17, 0, 0));
        Check.no("cut that is refused", x.cut(0, 2));
        Check.no("stop that is refused", x.stop(0));
        Check.same("refused", x.state(0), AtomicThreads.DONE);
        Check.yes("cut", x.cut(0, 1));
        Check.same("cut", x.state(0), 0);
        x.start(0);
        x.step(0);
        Check.yes("add", x.add(0, 0, 0, 0));
        Check.same("added", x.state(0), 0);
    }

    private static void doneAfter(int n, String text) {
        AtomicThreads x = Words.started(text);
        for (int k = 1; k < n; k++) {
            x.step(0);
            Check.same("state behind step " + k + " of " + text, x.state(0), AtomicThreads.READY);
        }
        x.step(0);
        Check.same("state behind the last step of " + text, x.state(0), AtomicThreads.DONE);
        Check.same("place then", x.place(0), -1);
        Check.same("step then", x.step(0), -1);
    }

    private static void doneAtOnce() {
        Check.about("when p is the place behind the last word, the thread is DONE at once");
        for (String last : new String[] {"SET 0 1", "ADD 0 0", "SUB 0 0", "PRINT 0"}) {
            doneAfter(1, last);
            doneAfter(2, "SET 2 2; " + last);
        }
        doneAfter(2, "ATOMIC; END");
        doneAfter(1, "IF 0; END");
        doneAfter(3, "SET 0 1; IF 0; END");
        doneAfter(2, "IF 0; ELSE; END");
        doneAfter(3, "SET 0 1; IF 0; ELSE; END");
        doneAfter(1, "WHILE 0; END");
        doneAfter(5, "SET 0 1; WHILE 0; SUB 0 0; END");
        doneAfter(2, "TRY; CATCH; END");
        doneAfter(3, "TRY; THROW; CATCH; END");
        AtomicThreads x = new AtomicThreads();
        Check.yes("start of the empty list", x.start(0));
        Check.same("state", x.state(0), AtomicThreads.DONE);
    }

    private static void doneFromFarAway() {
        Check.about("\"Goes on to p\" means that p is its place then");
        doneAfter(1, "IF 0; SET 1 1; SET 1 1" + FILL + "; END");
        doneAfter(1, "WHILE 0; SET 1 1; SET 1 1" + FILL + "; END");
        doneAfter(2, "TRY; CATCH; SET 1 1" + FILL + "; END");
        doneAfter(3, "SET 0 1; IF 0; ELSE" + FILL + "; END");
        AtomicThreads x = Words.started("SET 0 1; WHILE 0; SET 1 1" + FILL + "; END");
        Words.steps(x, 0, 29);
        Check.same("place of the 30th word", x.place(0), 29);
        Words.steps(x, 0, 1);
        Check.same("END of a WHILE: goes on to the WHILE", x.place(0), 1);
        Check.same("state", x.state(0), AtomicThreads.READY);
    }

    private static void sum(String kind, int first, int second, int due) {
        AtomicThreads x = Words.started("SET 1 " + first + "; SET 3 " + second + "; " + kind + " 1 3");
        Words.steps(x, 0, 3);
        Check.same(kind + " of " + first + " and " + second, x.register(0, 1), due);
        Check.same("the other stays", x.register(0, 3), second);
    }

    private static void twice(String kind, int n, int due) {
        AtomicThreads x = Words.started("SET 2 " + n + "; " + kind + " 2 2");
        Words.steps(x, 0, 2);
        Check.same(kind + " of " + n + " and itself", x.register(0, 2), due);
    }

    private static void wraps() {
        Check.about("ADD: r becomes r + s; SUB: r - s (both wrap).");
        sum("ADD", Numbers.MOST, 1, Numbers.LEAST);
        sum("ADD", Numbers.LEAST, -1, Numbers.MOST);
        sum("ADD", Numbers.MOST, Numbers.MOST, -2);
        sum("ADD", Numbers.LEAST, Numbers.LEAST, 0);
        sum("ADD", Numbers.LEAST, Numbers.MOST, -1);
        sum("SUB", Numbers.LEAST, 1, Numbers.MOST);
        sum("SUB", Numbers.MOST, -1, Numbers.LEAST);
        sum("SUB", 0, Numbers.LEAST, Numbers.LEAST);
        sum("SUB", -1, Numbers.LEAST, Numbers.MOST);
        sum("SUB", Numbers.LEAST, Numbers.MOST, 1);
        twice("ADD", Numbers.MOST, -2);
        twice("ADD", Numbers.LEAST, 0);
        twice("SUB", Numbers.LEAST, 0);
    }

    private static int placeBehind(int n, String text) {
        AtomicThreads x = Words.started("SET 2 " + n + "; " + text + "; SET 0 0");
        Words.steps(x, 0, 2);
        return x.place(0);
    }

    private static void ifAboveZero() {
        Check.about("IF: when r is above 0, nothing more; otherwise the thread goes on to the place behind its ELSE, or"
                + " behind its END when it has no ELSE.");
        for (int n : new int[] {Numbers.LEAST, -1, 0, 1, 2, Numbers.MOST}) {
            Check.same("IF .. ELSE of " + n, placeBehind(n, "IF 2; SET 1 1; ELSE; SET 1 2; END"), n > 0 ? 2 : 4);
            Check.same("IF of " + n, placeBehind(n, "IF 2; SET 1 1; END"), n > 0 ? 2 : 4);
            Check.same("IF of " + n + " around another ELSE", placeBehind(n, "IF 2; IF 0; ELSE; END; END"), n > 0 ? 2 : 6);
            Check.same("IF ELSE of " + n, placeBehind(n, "IF 2; ELSE; END"), n > 0 ? 2 : 3);
        }
    }

    private static void whileAboveZero() {
        Check.about("WHILE: when r is above 0, nothing more; otherwise goes on to the place behind its END.");
        for (int n : new int[] {Numbers.LEAST, -1, 0, 1, 2, Numbers.MOST}) {
            Check.same("WHILE of " + n, placeBehind(n, "WHILE 2; SET 1 1; END"), n > 0 ? 2 : 4);
            Check.same("WHILE of " + n + " around another END", placeBehind(n, "WHILE 2; IF 0; ELSE; END; END"), n > 0 ? 2 : 6);
        }
    }

    private static void firstPartHasEnded() {
        Check.about("CATCH: the first part of its TRY has ended; goes on to the place behind the END of that TRY. EITHER and"
                + " OR: likewise.");
        AtomicThreads x = Words.started("TRY; CATCH 3; TRY; CATCH 3; END; END; THROW 1");
        Words.steps(x, 0, 2);
        Check.same("behind the END of that TRY", x.place(0), 6);
        Check.same("step", x.step(0), 4);
        Check.same("it has ended", x.state(0), AtomicThreads.FAILED);
        x = Words.started("ATOMIC; EITHER; OR; EITHER; OR; END; END; RETRY; END");
        Words.steps(x, 0, 3);
        Check.same("behind the END of that EITHER", x.place(0), 7);
        Check.same("it has ended", x.step(0), 3);
    }

    private static void attemptBeginsEmpty() {
        Check.about("ATOMIC: an ATTEMPT begins. The registers are noted; its READ SET is empty, it has written nothing.");
        AtomicThreads x = Words.started("SET 3 1; WHILE 3; ATOMIC; READ 0 1; WRITE 2 3; END; END");
        Words.steps(x, 0, 3);
        Check.same("log of the first", x.log(0), 0);
        Words.steps(x, 0, 2);
        Check.same("log", x.log(0), 2 + 256 * 4);
        Check.same("step", x.step(0), 1);
        Words.steps(x, 0, 3);
        Check.same("log of one behind a committed one", x.log(0), 0);
        Words.steps(x, 0, 2);
        x.put(1, 1);
        Check.same("step", x.step(0), 2);
        Words.steps(x, 0, 1);
        Check.same("log of one behind a discarded one", x.log(0), 0);
        Check.same("sees", x.sees(0, 2), 1);
        x.put(2, 9);
        Check.same("sees", x.sees(0, 2), 9);
    }

    private static void staleSinceItBegan() {
        Check.about("A variable is STALE for an attempt when its version has risen since the attempt began.");
        AtomicThreads x = Words.started("ATOMIC; READ 0 7; END; ATOMIC; READ 0 7; WRITE 7 0; END; ATOMIC; READ 0 7; END");
        x.put(7, 1);
        Words.steps(x, 0, 1);
        Check.same("put just before it began", x.step(0), 0);
        Check.same("register", x.register(0, 0), 1);
        Check.same("step", x.step(0), 1);
        Words.steps(x, 0, 1);
        x.put(7, 2);
        Check.same("put just behind its beginning", x.step(0), 2);
        Words.steps(x, 0, 3);
        Check.same("step", x.step(0), 1);
        Words.steps(x, 0, 1);
        Check.same("its own earlier commit", x.step(0), 0);
        Check.same("step", x.step(0), 1);
    }

    private static void staleByTheSameValue() {
        Check.about("a variable is stale when its version has risen, whatever its value");
        AtomicThreads x = Words.started("ATOMIC; READ 0 0; END");
        Words.steps(x, 0, 1);
        x.put(0, 0);
        Check.same("step", x.step(0), 2);
        Words.steps(x, 0, 2);
        x.put(0, 5);
        x.put(0, 0);
        Check.same("step", x.step(0), 2);
    }

    private static void readOfWhatWasWritten() {
        Check.about("READ: when the attempt has written v, r becomes what it has written there last.");
        AtomicThreads x = Words.started("ATOMIC; SET 0 4; WRITE 7 0; SET 0 5; WRITE 7 0; READ 1 7; END");
        Words.steps(x, 0, 5);
        x.put(7, 9);
        Check.same("stale, but written", x.step(0), 0);
        Check.same("what was written last", x.register(0, 1), 5);
        Check.same("it does not belong to the read set", x.log(0), 256 * 128);
        Check.same("so that END commits", x.step(0), 1);
    }

    private static void readOfStale() {
        Check.about("Otherwise, when v is stale, the attempt is DISCARDED.");
        AtomicThreads x = Words.started("SET 2 3; ATOMIC; SET 2 4; WRITE 6 2; READ 1 7; END");
        Words.steps(x, 0, 4);
        x.put(7, 9);
        Check.same("step", x.step(0), 2);
        Check.same("its register stays", x.register(0, 1), 0);
        Check.same("register", x.register(0, 2), 3);
        Check.same("log", x.log(0), 0);
        Check.same("place", x.place(0), 1);
    }

    private static void readOfStaleAgain() {
        Check.about("Otherwise r becomes the value of v, and v belongs to the read set from then on.");
        AtomicThreads x = Words.started("ATOMIC; READ 1 7; READ 1 7; READ 1 0; END");
        Words.steps(x, 0, 2);
        Check.same("log", x.log(0), 128);
        Words.steps(x, 0, 1);
        Check.same("log of one read twice", x.log(0), 128);
        Words.steps(x, 0, 1);
        Check.same("log", x.log(0), 129);
        x.put(7, 1);
        Check.same("step", x.step(0), 2);
        Words.steps(x, 0, 2);
        x.put(7, 2);
        Check.same("READ of what went stale behind its first READ", x.step(0), 2);
    }

    private static void writeIsNotSeen() {
        Check.about("(The value of v does not change yet.)");
        AtomicThreads x = Words.started("SET 0 5; ATOMIC; WRITE 0 0; WRITE 7 0; END");
        Words.steps(x, 0, 4);
        Check.same("value 0", x.value(0), 0);
        Check.same("value 7", x.value(7), 0);
        Check.same("version 7", x.version(7), 0);
        Check.same("another sees", x.sees(1, 7), 0);
        Check.same("step", x.step(0), 1);
        Check.same("value 0", x.value(0), 5);
        Check.same("value 7", x.value(7), 5);
    }

    private static void endWithStaleReads() {
        Check.about("END of an ATOMIC: when a variable of the read set is stale, the attempt is DISCARDED.");
        for (int v = 0; v < 8; v++) {
            AtomicThreads x = Words.started("ATOMIC; READ 0 " + v + "; WRITE " + v + " 0; END");
            Words.steps(x, 0, 3);
            x.put(v, 3);
            Check.same("stale " + v, x.step(0), 2);
            Check.same("commits", x.commits(), 1);
            Words.steps(x, 0, 3);
            x.put((v + 1) % 8, 3);
            Check.same("stale another than " + v, x.step(0), 1);
        }
    }

    private static void endWithNothingWritten() {
        Check.about("When it has written nothing, none of this happens.");
        AtomicThreads x = Words.started("ATOMIC; READ 0 2; RETRY; END");
        Words.load(x, 1, "ATOMIC; READ 0 2; END; ATOMIC; END; PRINT 0");
        Words.steps(x, 0, 2);
        Check.same("step", x.step(0), 3);
        Words.steps(x, 1, 2);
        Check.same("END behind a READ", x.step(1), 1);
        Words.steps(x, 1, 1);
        Check.same("END behind its ATOMIC", x.step(1), 1);
        Check.same("commits", x.commits(), 0);
        Check.same("version", x.version(2), 0);
        Check.same("state", x.state(0), AtomicThreads.PARKED);
        Check.same("place", x.place(1), 5);
        Check.same("log", x.log(1), 0);
    }

    private static void endWithAllTakenBack() {
        Check.about("what the attempt has written and the registers become what they were when that EITHER was done");
        AtomicThreads x = Words.started("ATOMIC; READ 0 2; RETRY; END");
        Words.load(x, 1, "ATOMIC; EITHER; WRITE 2 0; RETRY; OR; END; TRY; WRITE 2 0; THROW 0; CATCH 0; END; END");
        Words.steps(x, 0, 2);
        Check.same("step", x.step(0), 3);
        Words.steps(x, 1, 7);
        Check.same("THROW", x.step(1), 4);
        Words.steps(x, 1, 1);
        Check.same("log", x.log(1), 0);
        Check.same("step", x.step(1), 1);
        Check.same("it has written nothing", x.commits(), 0);
        Check.same("version", x.version(2), 0);
        Check.same("state", x.state(0), AtomicThreads.PARKED);
    }

    /** More rounds than can be open at once: nothing of an attempt that is over may be left among the first parts. */
    private static void endInALoop() {
        Check.about("END of an ATOMIC: .. The attempt is over; goes on to the next place.");
        AtomicThreads x = Words.started("TRY; SET 3 6; SET 2 1; WHILE 3; ATOMIC; WRITE 0 3; END; SUB 3 2; END; CATCH; END; THROW 2");
        Words.steps(x, 0, 3);
        for (int k = 1; k <= 6; k++) {
            Words.steps(x, 0, 3);
            Check.same("step", x.step(0), 1);
            Check.same("place", x.place(0), 7);
            Check.same("commits", x.commits(), k);
            Words.steps(x, 0, 2);
        }
        Words.steps(x, 0, 2);
        Check.same("place behind the END of the TRY", x.place(0), 11);
        Check.same("THROW", x.step(0), 4);
        Check.same("state", x.state(0), AtomicThreads.FAILED);
    }

    private static void retryWithNoneLeft() {
        Check.about("RETRY: .. When there is none: .. otherwise the thread is PARKED.");
        AtomicThreads x = Words.started("ATOMIC; EITHER; READ 0 3; RETRY; OR; READ 1 4; RETRY; END; END");
        Words.steps(x, 0, 3);
        Check.same("RETRY in a first part", x.step(0), 0);
        Check.same("place", x.place(0), 5);
        Words.steps(x, 0, 1);
        Check.same("RETRY in a second part", x.step(0), 3);
        Check.same("the read set stays as it is", x.log(0), 8 + 16);
        x = Words.started("TRY; ATOMIC; TRY; RETRY; CATCH; END; END; CATCH; END");
        Words.steps(x, 0, 3);
        Check.same("the first part of a TRY is none", x.step(0), 3);
    }

    private static void retryWithNothingRead() {
        Check.about("every PARKED thread that has one of these variables in its read set becomes READY (here it has none)");
        AtomicThreads x = Words.started("ATOMIC; RETRY; END");
        Words.load(x, 1, "ATOMIC; WRITE 0 0; WRITE 7 0; END");
        Words.steps(x, 0, 1);
        Check.same("step", x.step(0), 3);
        Check.same("run", x.run(0x55, 4), 4);
        for (int v = 0; v < 8; v++) {
            x.put(v, 1);
            Check.same("waiting", x.waiting(v), 0);
        }
        Check.same("state", x.state(0), AtomicThreads.PARKED);
        Check.yes("stop", x.stop(0));
    }

    private static void retryWithStaleReads() {
        Check.about("RETRY: .. When there is none: when a variable of the read set is stale, the attempt is DISCARDED");
        AtomicThreads x = Words.started("ATOMIC; READ 0 7; EITHER; RETRY; OR; END; RETRY; END");
        Words.steps(x, 0, 3);
        x.put(7, 1);
        Check.same("one with a first part does not look", x.step(0), 0);
        Words.steps(x, 0, 1);
        Check.same("one without does", x.step(0), 2);
        Check.same("state", x.state(0), AtomicThreads.READY);
        Words.steps(x, 0, 5);
        x.put(0, 1);
        Check.same("not of the read set", x.step(0), 3);
    }

    /** The first parts of four EITHERs in an ATOMIC: five are open, which is the most. */
    private static void retryOutOfFive() {
        Check.about("the latest begun of these first parts ends");
        AtomicThreads x = Words.started("ATOMIC; SET 0 1; EITHER; SET 0 2; EITHER; SET 0 3; EITHER; SET 0 4; EITHER; SET 0 5;"
                + "RETRY; OR; RETRY; END; OR; RETRY; END; OR; RETRY; END; OR; RETRY; END; END");
        Words.steps(x, 0, 10);
        for (int k = 0; k < 4; k++) {
            Check.same("RETRY", x.step(0), 0);
            Check.same("place", x.place(0), 12 + 3 * k);
            Check.same("register", x.register(0, 0), 4 - k);
        }
        Check.same("no first part is left", x.step(0), 3);
        Check.same("register", x.register(0, 0), 0);
        Check.same("place", x.place(0), 0);
    }

    private static void throwWithNoneLeft() {
        Check.about("THROW: .. otherwise the attempt is over, with nothing changed in the variables, the registers become what"
                + " they were when its ATOMIC was done, and x is thrown outside of it likewise.");
        AtomicThreads x = Words.started("SET 1 1; ATOMIC; SET 1 2; SET 2 7; WRITE 0 2; TRY; CATCH; END; THROW 2; END");
        Words.steps(x, 0, 7);
        Check.same("step", x.step(0), 4);
        Check.same("state", x.state(0), AtomicThreads.FAILED);
        Check.same("register 0", x.register(0, 0), 7);
        Check.same("register 1", x.register(0, 1), 1);
        Check.same("register 2", x.register(0, 2), 0);
        Check.same("value", x.value(0), 0);
        Check.same("commits", x.commits(), 0);
        Check.same("log", x.log(0), 0);
        x = Words.started("SET 1 1; TRY; SET 1 2; ATOMIC; SET 1 3; THROW 1; END; CATCH 2; END; PRINT 1");
        Words.steps(x, 0, 5);
        Check.same("step", x.step(0), 4);
        Check.same("place", x.place(0), 8);
        Check.same("register 1", x.register(0, 1), 1);
        Check.same("register 2", x.register(0, 2), 3);
    }

    private static void throwWithStaleReads() {
        Check.about("THROW: .. in an attempt, when a variable of the read set is stale, the attempt is DISCARDED");
        AtomicThreads x = Words.started("TRY; ATOMIC; READ 0 7; TRY; THROW 0; CATCH; END; THROW 0; END; CATCH 3; END");
        Words.steps(x, 0, 4);
        x.put(7, 2);
        Check.same("one with a first part in it does not look", x.step(0), 4);
        Words.steps(x, 0, 1);
        Check.same("one without does, though there is one outside", x.step(0), 2);
        Check.same("place", x.place(0), 1);
        Check.same("register 3", x.register(0, 3), 0);
        Words.steps(x, 0, 3);
        Check.same("step", x.step(0), 4);
        Words.steps(x, 0, 1);
        x.put(0, 2);
        Check.same("not of the read set", x.step(0), 4);
        Check.same("register 3", x.register(0, 3), 2);
    }

    private static void throwOutsideWithNone() {
        Check.about("Outside of an attempt, when there is none: register 0 becomes x, and the thread is FAILED.");
        for (int n : new int[] {Numbers.LEAST, -1, 0, 1, Numbers.MOST}) {
            for (int r = 0; r < 4; r++) {
                AtomicThreads x = Words.started("SET 0 6; SET " + r + " " + n + "; THROW " + r + "; PRINT 0");
                Words.steps(x, 0, 2);
                Check.same("step", x.step(0), 4);
                Check.same("state", x.state(0), AtomicThreads.FAILED);
                Check.same("register 0", x.register(0, 0), n);
                Check.same("place", x.place(0), -1);
            }
        }
    }

    private static void throwOutOfFive() {
        Check.about("the latest begun of these ends: .. register r of the CATCH becomes x, and the thread goes on to the place"
                + " behind the CATCH");
        AtomicThreads x = Words.started("TRY; SET 0 1; TRY; SET 0 2; TRY; SET 0 3; TRY; SET 0 4; TRY; SET 0 5; THROW 0;"
                + "CATCH 3; THROW 3; END; CATCH 3; THROW 3; END; CATCH 3; THROW 3; END; CATCH 3; THROW 3; END; CATCH 3; THROW 3; END");
        Words.steps(x, 0, 10);
        for (int k = 0; k < 5; k++) {
            Check.same("THROW", x.step(0), 4);
            Check.same("place", x.place(0), 12 + 3 * k);
            Check.same("register 0", x.register(0, 0), 4 - k);
            Check.same("register 3", x.register(0, 3), 5);
        }
        Check.same("THROW", x.step(0), 4);
        Check.same("no first part is left", x.state(0), AtomicThreads.FAILED);
        Check.same("register 0", x.register(0, 0), 5);
    }

    private static void innerFirstPartsEndToo() {
        Check.about("When a first part ends otherwise than by its own OR or CATCH, all first parts that began in it have ended"
                + " too.");
        AtomicThreads x = Words.started("ATOMIC; EITHER; TRY; TRY; TRY; RETRY; CATCH; END; CATCH; END; CATCH; END; OR; SET 0 3;"
                + "THROW 0; END; END");
        Words.steps(x, 0, 7);
        Check.same("place", x.place(0), 14);
        Check.same("THROW", x.step(0), 4);
        Check.same("no TRY is left", x.state(0), AtomicThreads.FAILED);
        x = Words.started("ATOMIC; TRY; EITHER; EITHER; EITHER; THROW 0; OR; END; OR; END; OR; END; CATCH; RETRY; END; END");
        Words.steps(x, 0, 5);
        Check.same("THROW", x.step(0), 4);
        Check.same("place", x.place(0), 13);
        Check.same("no EITHER is left", x.step(0), 3);
    }

    private static void discarded() {
        Check.about("DISCARDED: the attempt is over, and so is every first part that began in it; .. The thread is READY; its"
                + " next step begins a new attempt.");
        AtomicThreads x = Words.started("ATOMIC; READ 0 0; IF 0; THROW 0; END; EITHER; TRY; TRY; READ 1 1; CATCH; END; CATCH;"
                + "END; OR; END; END");
        for (int k = 1; k <= 6; k++) {
            Words.steps(x, 0, 6);
            x.put(1, k);
            Check.same("READ of a stale one", x.step(0), 2);
            Check.same("state", x.state(0), AtomicThreads.READY);
            Check.same("place", x.place(0), 0);
            Check.same("discards", x.discards(0), k);
        }
        x.put(0, 1);
        Words.steps(x, 0, 3);
        Check.same("THROW", x.step(0), 4);
        Check.same("no first part is left", x.state(0), AtomicThreads.FAILED);
    }

    private static void parked() {
        Check.about("PARKED: all as when it is discarded, but that the thread is PARKED and keeps the read set until it becomes"
                + " READY (or is stopped).");
        AtomicThreads x = Words.started("SET 2 1; ATOMIC; SET 2 2; READ 0 0; READ 1 7; WRITE 3 2; TRY; RETRY; CATCH; END; END");
        for (int k = 0; k < 6; k++) {
            Words.steps(x, 0, k == 0 ? 7 : 6);
            Check.same("RETRY", x.step(0), 3);
            Check.same("log", x.log(0), 1 + 128);
            Check.same("sees", x.sees(0, 3), 0);
            Check.same("register", x.register(0, 2), 1);
            Check.same("place", x.place(0), 1);
            x.put(3, 0);
            Check.same("what it wrote wakes it not", x.log(0), 1 + 128);
            x.put(k % 2 == 0 ? 0 : 7, k);
            Check.same("state", x.state(0), AtomicThreads.READY);
            Check.same("log", x.log(0), 0);
        }
        Words.steps(x, 0, 6);
        Check.same("RETRY", x.step(0), 3);
        Check.yes("stop", x.stop(0));
        Check.same("log of a stopped one", x.log(0), 0);
        Check.same("discards", x.discards(0), 0);
    }
}
