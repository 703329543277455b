/** Promises 8 (run), 9 (put) with its neighbours, and 21 (printed). */
public final class RunTest {
    public static void main(String[] args) {
        numberOfSteps();
        order();
        wokenWithinARun();
        highestPairOfBits();
        puts();
        printedValues();
        printedByAll();
        Check.end();
    }

    private static AtomicThreads loops() {
        AtomicThreads x = new AtomicThreads();
        for (int t = 0; t < 4; t++) {
            Words.load(x, t, "SET 0 1; SET 1 " + (t + 1) + "; WHILE 0; PRINT 1; END");
            Words.steps(x, t, 3);
        }
        return x;
    }

    private static void numberOfSteps() {
        AtomicThreads x = loops();
        int[] none = {-1, 17, 18, 32, Integer.MIN_VALUE, Integer.MAX_VALUE};
        for (int n : none) {
            Check.same("run of " + n, x.run(0, n), -1);
            Check.same("place", x.place(0), 3);
        }
        Check.same("run of 0", x.run(0, 0), 0);
        Check.same("place", x.place(0), 3);
        Check.same("run of 1", x.run(0, 1), 1);
        Check.same("place", x.place(0), 4);
        Check.same("run of 16", x.run(0, 16), 16);
        x.stop(0);
        Check.same("run of a stopped one", x.run(0, 16), 0);
        Check.same("half of them", x.run(0x44444444, 16), 8);
        Check.same("the others are not counted", x.run(0xE4, 4), 3);
        Check.same("only the first n", x.run(0xE4, 2), 1);
    }

    private static void order() {
        AtomicThreads x = loops();
        Check.same("run", x.run(0x2D, 4), 4);
        Check.same("printed", x.printed(-1), 4);
        Check.same("latest", x.printed(0), 1);
        Check.same("before", x.printed(1), 3);
        Check.same("before", x.printed(2), 4);
        Check.same("first", x.printed(3), 2);
    }

    private static void wokenWithinARun() {
        AtomicThreads x = Words.started("ATOMIC; READ 0 2; IF 0; ELSE; RETRY; END; END; PRINT 0");
        Words.load(x, 1, "SET 0 4; ATOMIC; WRITE 2 0; END");
        Check.same("run", x.run(0x5500, 13), 4 + 4 + 5);
        Check.same("state", x.state(0), AtomicThreads.READY);
        Check.same("register", x.register(0, 0), 4);
    }

    private static void highestPairOfBits() {
        AtomicThreads x = loops();
        Check.same("run", x.run(0x80000000, 16), 16);
        Check.same("thread 0", x.place(0), 3);
        Check.same("thread 2", x.printed(0), 3);
        Check.same("run of -1", x.run(-1, 16), 16);
        Check.same("thread 3", x.printed(0), 4);
    }

    private static void puts() {
        AtomicThreads x = new AtomicThreads();
        Check.yes("put", x.put(0, 5));
        Check.yes("put", x.put(7, Integer.MIN_VALUE));
        Check.yes("put", x.put(0, 5));
        Check.no("put", x.put(8, 5));
        Check.no("put", x.put(-1, 5));
        Check.same("commits", x.commits(), 3);
        Check.same("value 0", x.value(0), 5);
        Check.same("version 0", x.version(0), 3);
        Check.same("value 7", x.value(7), Integer.MIN_VALUE);
        Check.same("version 7", x.version(7), 2);
        Check.same("version 1", x.version(1), 0);
        Check.same("sees", x.sees(3, 0), 5);
    }

    private static void printedValues() {
        AtomicThreads x = Words.started("SET 1 1; SET 2 1; WHILE 2; PRINT 0; ADD 0 1; END");
        Words.steps(x, 0, 2);
        for (int count = 0; count < 40; count++) {
            Check.same("count", x.printed(-1), count);
            for (int k = 0; k < 16; k++) {
                Check.same("printed(" + k + ") of " + count, x.printed(k), k < count ? count - 1 - k : 0);
            }
            Check.same("run", x.run(0, 4), 4);
        }
        int[] none = {-2, -17, 16, 17, 32, Integer.MIN_VALUE, Integer.MAX_VALUE};
        for (int k : none) {
            Check.same("printed(" + k + ")", x.printed(k), 0);
        }
        x.stop(0);
        x.start(0);
        Check.same("start takes nothing back", x.printed(-1), 40);
        Check.same("start takes nothing back", x.printed(0), 39);
    }

    private static void printedByAll() {
        AtomicThreads x = new AtomicThreads();
        for (int t = 0; t < 4; t++) {
            Words.load(x, t, "PRINT 0; TRY; SET 3 " + (9 - t) + "; PRINT 3; THROW 3; CATCH 0; END");
            Words.steps(x, t, 4);
            Check.same("step", x.step(t), 4);
            Check.same("what was printed stays", x.printed(0), 9 - t);
            Check.same("printed", x.printed(-1), 2 * t + 2);
        }
    }
}
