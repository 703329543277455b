/** Promises 2 (add), 3 (cut) and 4 (check). */
public final class ListTest {
    private static final int ANY = 0;
    private static final int REGISTER = 4;
    private static final int VARIABLE = 8;
    /** What the numbers a and b of each kind name. */
    private static final int[] FIRST = {4, 4, 4, 4, 8, 4, 0, 0, 0, 0, 0, 4, 0, 4, 4, 0, 4};
    private static final int[] SECOND = {0, 4, 4, 8, 4, 0, 0, 0, 0, 0, 0, 0, 0, 0, 0, 0, 0};

    public static void main(String[] args) {
        namedNumbers();
        kinds();
        thirtyWords();
        becomesIdle();
        refusedWhileUnderWay();
        cuts();
        cutForgetsWords();
        goodLists();
        wrongEnds();
        wrongMiddles();
        wrongForAtomic();
        tooManyOpen();
        openBehindTheLast();
        firstWrongWord();
        checkChangesNothing();
        Check.end();
    }

    private static void namedNumbers() {
        int[] tried = {Integer.MIN_VALUE, -8, -1, 0, 3, 4, 7, 8, 9, Integer.MAX_VALUE};
        for (int kind = 0; kind <= 16; kind++) {
            for (int a : tried) {
                for (int b : tried) {
                    boolean due = isNamed(FIRST[kind], a) && isNamed(SECOND[kind], b);
                    AtomicThreads x = new AtomicThreads();
                    String call = "add(2, " + kind + ", " + a + ", " + b + ")";
                    Check.same(call, x.add(2, kind, a, b) ? 1 : 0, due ? 1 : 0);
                    Check.same(call + " cut", x.cut(2, 1) ? 1 : 0, due ? 1 : 0);
                }
            }
        }
        Check.same("the tables", FIRST[4] + FIRST[0] + FIRST[6], VARIABLE + REGISTER + ANY);
    }

    private static boolean isNamed(int limit, int n) {
        return limit == ANY || n >= 0 && n < limit;
    }

    private static void kinds() {
        int[] none = {-1, 17, 18, 32, Integer.MIN_VALUE, Integer.MAX_VALUE};
        for (int kind : none) {
            AtomicThreads x = new AtomicThreads();
            Check.no("add kind " + kind, x.add(0, kind, 0, 0));
            Check.no("cut 1", x.cut(0, 1));
        }
    }

    private static void thirtyWords() {
        AtomicThreads x = new AtomicThreads();
        for (int k = 0; k < 30; k++) {
            Check.yes("add " + k, x.add(3, 0, 0, k));
        }
        Check.no("add 31st", x.add(3, 0, 0, 0));
        Check.yes("another list", x.add(2, 0, 0, 0));
        Check.yes("start", x.start(3));
        Check.same("run", x.run(-1, 16), 16);
        Check.same("run", x.run(-1, 16), 14);
        Check.same("register", x.register(3, 0), 29);
        Check.no("add 31st", x.add(3, 0, 0, 0));
        Check.same("state after a refused add", x.state(3), AtomicThreads.DONE);
        Check.no("cut 31", x.cut(3, 31));
        Check.same("state after a refused cut", x.state(3), AtomicThreads.DONE);
        Check.yes("cut 30", x.cut(3, 30));
        Check.same("state after cut", x.state(3), AtomicThreads.IDLE);
        Check.yes("cut 29", x.cut(3, 29));
        Check.yes("add 30th", x.add(3, 7, 0, 0));
        Check.same("check", x.check(3), 29);
    }

    private static void becomesIdle() {
        AtomicThreads x = Words.started("SET 0 5; THROW 0");
        x.run(0, 2);
        Check.same("state", x.state(0), AtomicThreads.FAILED);
        Check.no("add of no word", x.add(0, 0, 4, 0));
        Check.same("state", x.state(0), AtomicThreads.FAILED);
        Check.yes("add", x.add(0, 5, 0, 0));
        Check.same("state", x.state(0), AtomicThreads.IDLE);
        Check.same("register", x.register(0, 0), 5);
        Check.same("step", x.step(0), -1);
        x.start(0);
        x.run(0, 2);
        Check.yes("cut", x.cut(0, 3));
        Check.same("state", x.state(0), AtomicThreads.IDLE);
        Check.same("register", x.register(0, 0), 5);
        Check.same("other thread", x.state(1), AtomicThreads.IDLE);
    }

    private static void refusedWhileUnderWay() {
        AtomicThreads x = Words.started("ATOMIC; READ 0 1; RETRY; END");
        Check.no("add READY", x.add(0, 0, 0, 0));
        Check.no("cut READY", x.cut(0, 0));
        Check.no("cut READY", x.cut(0, 4));
        Check.no("start READY", x.start(0));
        x.run(0, 3);
        Check.same("state", x.state(0), AtomicThreads.PARKED);
        Check.no("add PARKED", x.add(0, 0, 0, 0));
        Check.no("cut PARKED", x.cut(0, 0));
        Check.no("start PARKED", x.start(0));
        Check.same("state", x.state(0), AtomicThreads.PARKED);
        Check.same("log", x.log(0), 2);
        Check.yes("stop", x.stop(0));
        Check.no("cut", x.cut(0, 5));
        Check.yes("cut", x.cut(0, 4));
    }

    private static void cuts() {
        AtomicThreads x = new AtomicThreads();
        Words.append(x, 1, "SET 0 1; SET 1 2; SET 2 3");
        int[] none = {-1, 4, 30, 31, Integer.MIN_VALUE, Integer.MAX_VALUE};
        for (int n : none) {
            Check.no("cut " + n, x.cut(1, n));
        }
        Check.yes("cut 3", x.cut(1, 3));
        Check.yes("cut 2", x.cut(1, 2));
        Check.no("cut 3", x.cut(1, 3));
        x.start(1);
        Check.same("run", x.run(0x55555555, 16), 2);
        Check.same("register 1", x.register(1, 1), 2);
        Check.same("register 2", x.register(1, 2), 0);
        Check.yes("cut 0", x.cut(1, 0));
        Check.yes("cut 0", x.cut(1, 0));
        x.start(1);
        Check.same("state", x.state(1), AtomicThreads.DONE);
    }

    /** What belonged together in an earlier list must not last in the next one. */
    private static void cutForgetsWords() {
        AtomicThreads x = Words.started("IF 0; SET 1 1; ELSE; SET 2 2; END; SET 3 3");
        Check.same("run", x.run(0, 16), 4);
        x.cut(0, 2);
        Words.load(x, 0, "SET 2 9; SET 2 8; END");
        Check.same("run", x.run(0, 16), 1);
        Check.same("register", x.register(0, 2), 0);
        Check.same("state", x.state(0), AtomicThreads.DONE);
    }

    private static void good(String text) {
        Check.same("check of " + text, Words.checked(text), -1);
    }

    private static void wrong(int place, String text) {
        Check.same("check of " + text, Words.checked(text), place);
    }

    private static void goodLists() {
        good("SET 0 0");
        good("SET 0 0; ADD 0 0; SUB 0 0; PRINT; THROW");
        good("ATOMIC; END");
        good("ATOMIC; READ 0 0; WRITE 0 0; RETRY; SET 0 0; ADD 0 0; SUB 0 0; THROW; END");
        good("ATOMIC; EITHER; OR; END; END");
        good("IF 0; END");
        good("IF 0; ELSE; END");
        good("WHILE 0; END");
        good("TRY; CATCH 0; END");
        good("ATOMIC; TRY; EITHER; OR; END; CATCH 0; EITHER; OR; END; END; END; PRINT");
        good("ATOMIC; END; ATOMIC; END; PRINT");
        good("TRY; ATOMIC; END; CATCH 0; ATOMIC; END; END; PRINT");
        good("IF 0; IF 0; ELSE; END; ELSE; IF 0; END; END");
        good("TRY; TRY; TRY; TRY; TRY; CATCH; END; CATCH; END; CATCH; END; CATCH; END; CATCH; END");
        good("IF 0; IF 0; IF 0; IF 0; IF 0; END; IF 0; END; END; END; END; END");
    }

    private static void wrongEnds() {
        wrong(0, "END");
        wrong(2, "IF 0; END; END");
        wrong(2, "ATOMIC; EITHER; END");
        wrong(1, "TRY; END");
        wrong(5, "ATOMIC; EITHER; IF 0; ELSE; END; END");
        wrong(4, "TRY; TRY; CATCH; END; END");
    }

    private static void wrongMiddles() {
        for (String middle : new String[] {"OR", "ELSE", "CATCH"}) {
            wrong(0, middle);
            wrong(1, "ATOMIC; " + middle);
            wrong(1, "WHILE 0; " + middle);
            wrong(2, "IF 0; END; " + middle);
            if (!middle.equals("ELSE")) {
                wrong(1, "IF 0; " + middle);
            }
            if (!middle.equals("CATCH")) {
                wrong(1, "TRY; " + middle);
            }
            if (!middle.equals("OR")) {
                wrong(2, "ATOMIC; EITHER; " + middle);
            }
        }
        wrong(3, "ATOMIC; EITHER; OR; OR");
        wrong(2, "IF 0; ELSE; ELSE");
        wrong(2, "TRY; CATCH; CATCH");
        wrong(2, "TRY; IF 0; CATCH");
        wrong(2, "IF 0; WHILE 0; ELSE");
        wrong(3, "ATOMIC; EITHER; TRY; OR");
    }

    private static void wrongForAtomic() {
        for (String word : new String[] {"READ 0 0", "WRITE 0 0", "RETRY", "EITHER"}) {
            wrong(0, word);
            wrong(1, "TRY; " + word);
            wrong(2, "ATOMIC; END; " + word);
        }
        good("ATOMIC; IF 0; WHILE 0; READ 0 0; WRITE 0 0; RETRY; EITHER; OR; END; END; END; END");
        for (String word : new String[] {"PRINT", "ATOMIC"}) {
            wrong(1, "ATOMIC; " + word);
            wrong(4, "TRY; ATOMIC; IF 0; ELSE; " + word);
            wrong(3, "ATOMIC; TRY; CATCH; " + word);
        }
    }

    private static void tooManyOpen() {
        for (String word : new String[] {"IF 0", "WHILE 0", "TRY", "ATOMIC"}) {
            wrong(5, "IF 0; IF 0; WHILE 0; WHILE 0; TRY; " + word);
            wrong(5, "IF 0; IF 0; WHILE 0; WHILE 0; " + word);
        }
        wrong(5, "ATOMIC; IF 0; WHILE 0; WHILE 0; TRY; EITHER");
        wrong(6, "ATOMIC; IF 0; WHILE 0; WHILE 0; EITHER; OR; TRY");
        wrong(11, "ATOMIC; IF 0; WHILE 0; WHILE 0; EITHER; OR; END; TRY; CATCH; END; END");
    }

    private static void openBehindTheLast() {
        wrong(1, "IF 0");
        wrong(1, "TRY");
        wrong(2, "ATOMIC; EITHER");
        wrong(3, "TRY; CATCH; SET 0 0");
        wrong(4, "WHILE 0; IF 0; ELSE; END");
    }

    private static void firstWrongWord() {
        wrong(1, "SET 0 0; READ 0 0; END; OR; IF 0");
        wrong(2, "IF 0; ELSE; READ 0 0");
        AtomicThreads x = new AtomicThreads();
        Words.append(x, 0, "END");
        Check.same("other list", x.check(1), -1);
        Check.no("start", x.start(0));
        Check.same("state", x.state(0), AtomicThreads.IDLE);
    }

    private static void checkChangesNothing() {
        AtomicThreads x = Words.started("TRY; IF 0; ELSE; SET 1 4; END; THROW 1; CATCH 2; END; PRINT 2");
        for (int k = 0; k < 6; k++) {
            Check.same("check", x.check(0), -1);
            x.step(0);
        }
        Check.same("state", x.state(0), AtomicThreads.READY);
        Check.same("register", x.register(0, 2), 4);
        x.run(0, 16);
        Check.same("check of a DONE thread", x.check(0), -1);
        Check.same("state", x.state(0), AtomicThreads.DONE);
        Check.same("printed", x.printed(0), 4);
    }
}
