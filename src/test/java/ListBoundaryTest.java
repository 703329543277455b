/** "Terms", the lists: the boundary cases, a test for each sentence that names one. */
public final class ListBoundaryTest {
    private static final String[] OPENERS = {"ATOMIC", "EITHER", "IF 0", "WHILE 0", "TRY"};
    private static final String[] MIDDLES = {"OR", "ELSE", "CATCH"};

    public static void main(String[] args) {
        threads();
        thirtyWords();
        registers();
        variables();
        numbersThatAreNotNamed();
        namedRegisters();
        namedVariables();
        anyInt();
        endWithNothingOpen();
        endOfEitherWithoutOr();
        endOfTryWithoutCatch();
        middleOfAnother();
        secondMiddle();
        middleWithNothingOpen();
        noAtomicOpen();
        atomicOpen();
        fiveOpen();
        fiveOpenAgain();
        openBehindTheLastWord();
        emptyList();
        Check.end();
    }

    private static void threads() {
        Check.about("THREADS 0 .. 3.");
        for (int t = 0; t < 4; t++) {
            AtomicThreads x = new AtomicThreads();
            Check.yes("add to " + t, x.add(t, Words.kind("SET"), 1, t + 5));
            Check.yes("start " + t, x.start(t));
            Check.same("step " + t, x.step(t), 0);
            for (int u = -1; u <= 4; u++) {
                boolean exists = u >= 0 && u <= 3;
                Check.same("register of " + u, x.register(u, 1), u == t ? t + 5 : 0);
                Check.same("state of " + u, x.state(u), !exists ? -1 : u == t ? AtomicThreads.DONE : AtomicThreads.IDLE);
            }
        }
    }

    private static void thirtyWords() {
        Check.about("Each has a LIST of at most 30 words at the places 0, 1, ..");
        for (int t = 0; t < 4; t++) {
            AtomicThreads x = new AtomicThreads();
            for (int k = 0; k < 30; k++) {
                Check.yes("add at " + k, x.add(t, Words.kind("SET"), 2, k + 1));
            }
            Check.no("add at 30", x.add(t, Words.kind("SET"), 2, 31));
            Check.yes("start", x.start(t));
            for (int k = 0; k < 30; k++) {
                Check.same("place", x.place(t), k);
                Check.same("step", x.step(t), 0);
                Check.same("register", x.register(t, 2), k + 1);
            }
            Check.same("state behind the 30th", x.state(t), AtomicThreads.DONE);
            Check.same("no 31st", x.step(t), -1);
        }
    }

    private static void registers() {
        Check.about("four REGISTERS 0 .. 3 (ints, 0 at first)");
        for (int r = 0; r < 4; r++) {
            AtomicThreads x = Words.started("ADD " + r + " " + r + "; SET " + r + " -2147483648; SET " + r + " 2147483647");
            Check.same("at first", x.register(0, r), 0);
            Words.steps(x, 0, 1);
            Check.same("at first", x.register(0, r), 0);
            Words.steps(x, 0, 1);
            Check.same("the least int", x.register(0, r), Numbers.LEAST);
            Words.steps(x, 0, 1);
            Check.same("the most int", x.register(0, r), Numbers.MOST);
            for (int s = -1; s <= 4; s++) {
                Check.same("register " + s, x.register(0, s), s == r ? Numbers.MOST : 0);
            }
        }
    }

    private static void variables() {
        Check.about("VARIABLES 0 .. 7 are shared; each has a value (an int, 0 at first) and a VERSION (0 at first).");
        for (int v = 0; v < 8; v++) {
            AtomicThreads x = Words.started("ATOMIC; READ 0 " + v + "; END");
            Check.same("value at first", x.value(v), 0);
            Check.same("version at first", x.version(v), 0);
            x.put(v, Numbers.LEAST);
            Check.same("the least int", x.value(v), Numbers.LEAST);
            x.put(v, Numbers.MOST);
            Words.steps(x, 0, 2);
            Check.same("the most int", x.register(0, 0), Numbers.MOST);
            for (int w = -1; w <= 8; w++) {
                Check.same("value " + w, x.value(w), w == v ? Numbers.MOST : 0);
                Check.same("version " + w, x.version(w), w == v ? 2 : 0);
            }
        }
    }

    /** Adds a word with each of these numbers as its a, or as its b. */
    private static void adds(String name, boolean asFirst, int other, int[] numbers, boolean due) {
        for (int n : numbers) {
            AtomicThreads x = new AtomicThreads();
            int a = asFirst ? n : other;
            int b = asFirst ? other : n;
            String call = "add " + name + " " + a + " " + b;
            Check.same(call, x.add(1, Words.kind(name), a, b) ? 1 : 0, due ? 1 : 0);
            Check.same(call + ", then cut 1", x.cut(1, 1) ? 1 : 0, due ? 1 : 0);
        }
    }

    private static void numbersThatAreNotNamed() {
        Check.about("Below, a NUMBER that is not named is not looked at");
        for (String name : new String[] {"ATOMIC", "END", "RETRY", "EITHER", "OR", "ELSE", "TRY"}) {
            adds(name, true, Numbers.LEAST, Numbers.NO_VARIABLE, true);
            adds(name, false, Numbers.MOST, Numbers.NO_VARIABLE, true);
        }
        for (String name : new String[] {"PRINT", "IF", "WHILE", "THROW", "CATCH"}) {
            adds(name, false, 3, Numbers.NO_VARIABLE, true);
        }
        AtomicThreads x = Words.started("IF 3 -7; ELSE -1 99; TRY 8 8; THROW 3 -1; CATCH 0 77; END 9 9; END 9 9; PRINT 0 -9");
        Check.same("run", x.run(0, 16), 6);
        Check.same("state", x.state(0), AtomicThreads.DONE);
        Check.same("printed", x.printed(-1), 1);
    }

    private static void namedRegisters() {
        Check.about("r and s are registers (0 .. 3)");
        int[] within = {0, 1, 2, 3};
        for (String name : new String[] {"SET", "ADD", "SUB", "READ", "PRINT", "IF", "WHILE", "THROW", "CATCH"}) {
            adds(name, true, 3, within, true);
            adds(name, true, 3, Numbers.NO_REGISTER, false);
        }
        for (String name : new String[] {"ADD", "SUB", "WRITE"}) {
            adds(name, false, 3, within, true);
            adds(name, false, 3, Numbers.NO_REGISTER, false);
        }
    }

    private static void namedVariables() {
        Check.about("v a variable (0 .. 7)");
        int[] within = {0, 1, 2, 3, 4, 5, 6, 7};
        adds("READ", false, 3, within, true);
        adds("READ", false, 3, Numbers.NO_VARIABLE, false);
        adds("WRITE", true, 3, within, true);
        adds("WRITE", true, 3, Numbers.NO_VARIABLE, false);
    }

    private static void anyInt() {
        Check.about("n any int");
        adds("SET", false, 0, Numbers.NO_VARIABLE, true);
        for (int n : Numbers.NO_VARIABLE) {
            AtomicThreads x = Words.started("SET 3 " + n);
            Words.steps(x, 0, 1);
            Check.same("register", x.register(0, 3), n);
        }
    }

    private static void good(String text) {
        Check.same("check of " + text, Words.checked(text), -1);
    }

    private static void wrong(int place, String text) {
        Check.same("check of " + text, Words.checked(text), place);
    }

    private static void endWithNothingOpen() {
        Check.about("A word is WRONG when it is END and nothing is open");
        wrong(0, "END");
        wrong(1, "SET 0 0; END");
        wrong(2, "ATOMIC; END; END");
        wrong(2, "IF 0; END; END; IF 0; END");
        good("IF 0; IF 0; END; END");
    }

    private static void endOfEitherWithoutOr() {
        Check.about("or the innermost is an EITHER without an OR so far");
        wrong(2, "ATOMIC; EITHER; END");
        wrong(2, "ATOMIC; EITHER; END; OR; END; END");
        wrong(6, "ATOMIC; EITHER; EITHER; OR; END; SET 0 0; END");
        good("ATOMIC; EITHER; OR; END; END");
        good("ATOMIC; EITHER; IF 0; END; OR; END; END");
    }

    private static void endOfTryWithoutCatch() {
        Check.about("or a TRY without a CATCH so far");
        wrong(1, "TRY; END");
        wrong(1, "TRY; END; CATCH; END");
        wrong(5, "TRY; TRY; CATCH; END; SET 0 0; END");
        good("TRY; CATCH; END");
        good("TRY; ATOMIC; END; CATCH; END");
    }

    private static void middleOfAnother() {
        Check.about("when it is OR and the innermost is not an EITHER without an OR so far; ELSE and an IF without an ELSE"
                + " so far, CATCH and a TRY without a CATCH so far likewise");
        for (int i = 0; i < OPENERS.length; i++) {
            for (int k = 0; k < MIDDLES.length; k++) {
                boolean belongs = i == 1 && k == 0 || i == 2 && k == 1 || i == 4 && k == 2;
                String text = (i == 0 ? "" : "ATOMIC; ") + OPENERS[i] + "; " + MIDDLES[k] + "; END" + (i == 0 ? "" : "; END");
                Check.same("check of " + text, Words.checked(text), belongs ? -1 : i == 0 ? 1 : 2);
            }
        }
        wrong(3, "ATOMIC; EITHER; IF 0; OR");
        wrong(2, "IF 0; TRY; ELSE");
        wrong(3, "TRY; ATOMIC; EITHER; CATCH");
    }

    private static void secondMiddle() {
        Check.about("without an OR so far; .. without an ELSE so far, .. without a CATCH so far");
        wrong(3, "ATOMIC; EITHER; OR; OR; END; END");
        wrong(2, "IF 0; ELSE; ELSE; END");
        wrong(2, "TRY; CATCH; CATCH; END");
        wrong(6, "ATOMIC; EITHER; OR; IF 0; ELSE; END; OR; END; END");
        wrong(5, "IF 0; ELSE; IF 0; ELSE; END; ELSE; END");
        wrong(5, "TRY; CATCH; TRY; CATCH; END; CATCH; END");
        good("ATOMIC; EITHER; EITHER; OR; END; OR; EITHER; OR; END; END; END");
    }

    private static void middleWithNothingOpen() {
        Check.about("(also when nothing is open)");
        for (String middle : MIDDLES) {
            wrong(0, middle);
            wrong(1, "SET 0 0; " + middle);
        }
        wrong(5, "ATOMIC; EITHER; OR; END; END; OR");
        wrong(3, "IF 0; SET 0 0; END; ELSE");
        wrong(3, "TRY; CATCH; END; CATCH");
    }

    private static void noAtomicOpen() {
        Check.about("when it is READ, WRITE, RETRY or EITHER and no ATOMIC is open");
        for (String word : new String[] {"READ 0 0", "WRITE 0 0", "RETRY", "EITHER"}) {
            wrong(0, word);
            wrong(4, "IF 0; WHILE 0; TRY; CATCH; " + word);
            wrong(2, "ATOMIC; END; " + word);
            Check.no("wrong behind ATOMIC", Words.checked("ATOMIC; " + word) == 1);
            Check.no("wrong deep in ATOMIC", Words.checked("ATOMIC; IF 0; TRY; WHILE 0; " + word) == 4);
            Check.no("wrong in the outermost ATOMIC", Words.checked("ATOMIC; IF 0; END; " + word) == 3);
        }
    }

    private static void atomicOpen() {
        Check.about("when it is PRINT or ATOMIC and an ATOMIC is open");
        for (String word : new String[] {"PRINT", "ATOMIC"}) {
            wrong(1, "ATOMIC; " + word);
            wrong(4, "ATOMIC; IF 0; TRY; WHILE 0; " + word);
            wrong(3, "ATOMIC; EITHER; OR; " + word);
            wrong(2, "IF 0; ATOMIC; " + word);
            Check.no("wrong without ATOMIC", Words.checked(word) == 0);
            Check.no("wrong deep without ATOMIC", Words.checked("IF 0; TRY; WHILE 0; " + word) == 3);
            Check.no("wrong behind an ended ATOMIC", Words.checked("IF 0; ATOMIC; END; " + word) == 3);
        }
    }

    private static void fiveOpen() {
        Check.about("when it opens something and five are open already");
        for (String fifth : OPENERS) {
            for (String sixth : OPENERS) {
                boolean needsAtomic = fifth.equals("EITHER") || sixth.equals("EITHER");
                String four = needsAtomic ? "ATOMIC; IF 0; WHILE 0; TRY" : "WHILE 0; TRY; IF 0; IF 0";
                Check.same("four and " + fifth, Words.checked(four + "; " + fifth), needsAtomic && fifth.equals("ATOMIC") ? 4 : 5);
                if (!fifth.equals("ATOMIC") || !needsAtomic) {
                    Check.same("five and " + sixth, Words.checked(four + "; " + fifth + "; " + sixth), 5);
                    Check.same("five and SET", Words.checked(four + "; " + fifth + "; SET 0 0"), 6);
                }
            }
        }
        good("IF 0; IF 0; IF 0; IF 0; IF 0; ELSE; SET 0 0; END; END; END; END; END");
        good("ATOMIC; EITHER; EITHER; EITHER; EITHER; OR; END; OR; END; OR; END; OR; END; END");
        good("TRY; TRY; TRY; TRY; ATOMIC; END; CATCH; END; CATCH; END; CATCH; END; CATCH; ATOMIC; END; END");
    }

    private static void fiveOpenAgain() {
        Check.about("END ends the INNERMOST, that is, the latest one that was opened and has not been ended.");
        good("IF 0; IF 0; IF 0; IF 0; IF 0; END; IF 0; END; END; IF 0; IF 0; END; END; END; END; END");
        wrong(7, "IF 0; IF 0; IF 0; IF 0; IF 0; END; IF 0; IF 0; END; END; END; END; END");
        wrong(6, "ATOMIC; IF 0; IF 0; IF 0; EITHER; OR; TRY");
        good("WHILE 0; END; WHILE 0; END; WHILE 0; END; WHILE 0; END; WHILE 0; END; WHILE 0; END");
    }

    private static void openBehindTheLastWord() {
        Check.about("A list is good when no word of it is wrong and nothing is open behind its last word.");
        wrong(1, "ATOMIC");
        wrong(2, "ATOMIC; EITHER");
        wrong(3, "ATOMIC; EITHER; OR");
        wrong(4, "ATOMIC; EITHER; OR; END");
        good("ATOMIC; EITHER; OR; END; END");
        wrong(1, "IF 0");
        wrong(2, "IF 0; ELSE");
        wrong(1, "WHILE 0");
        wrong(1, "TRY");
        wrong(2, "TRY; CATCH");
        wrong(5, "IF 0; IF 0; IF 0; IF 0; IF 0");
        wrong(30, "IF 0" + "; SET 0 0".repeat(29));
        wrong(30, "SET 0 0; ".repeat(29) + "TRY");
        good("IF 0" + "; SET 0 0".repeat(28) + "; END");
    }

    private static void emptyList() {
        Check.about("The empty list is good.");
        AtomicThreads x = new AtomicThreads();
        for (int t = 0; t < 4; t++) {
            Check.same("check at first", x.check(t), -1);
            Words.append(x, t, "END");
            Check.same("check of END", x.check(t), 0);
            x.cut(t, 0);
            Check.same("check of what is empty again", x.check(t), -1);
            Check.yes("start", x.start(t));
            Check.same("state", x.state(t), AtomicThreads.DONE);
        }
    }
}
