/** Promises 1 to 9 and what refused calls change: the boundary cases, a test for each sentence that names one. */
public final class CallBoundaryTest {
    private static final int SET = Words.kind("SET");
    private static final int[] ANY_THREAD = {0, 1, 2, 3};

    public static void main(String[] args) {
        scene();
        newObject();
        addNoThread();
        addReadyOrParked();
        addFullList();
        addNoKind();
        addNumberOutOfRange();
        addWrongWord();
        addMakesIdle();
        cutNoThread();
        cutReadyOrParked();
        cutOutOfRange();
        cutWithinRange();
        checkNoThread();
        checkFirstWrong();
        checkOpen();
        startNoThread();
        startReadyOrParked();
        startNotGood();
        startEmptyList();
        startAgain();
        stopNoThread();
        stopInAnotherState();
        stopInAttempt();
        stepNoThread();
        stepNotReady();
        runOutOfRange();
        runOfEachLength();
        runOfNotReady();
        runReadyThen();
        putNoVariable();
        putTheSame();
        putAtTheEnds();
        lastCalls();
        Check.end();
    }

    /** The scene that refused calls must leave as it is has something in each answer that they could change. */
    private static void scene() {
        AtomicThreads x = Scene.made();
        Check.same("state 0", x.state(0), AtomicThreads.READY);
        Check.same("log 0", x.log(0), 1 + 16 + 256 * 4);
        Check.same("state 1", x.state(1), AtomicThreads.PARKED);
        Check.same("log 1", x.log(1), 2 + 128);
        Check.same("state 2", x.state(2), AtomicThreads.FAILED);
        Check.same("state 3", x.state(3), AtomicThreads.DONE);
        Check.no("add to a full list", x.add(3, SET, 0, 0));
        Check.same("printed", x.printed(-1), 2);
    }

    private static void newObject() {
        Check.about("AtomicThreads(): All lists empty, all threads IDLE, no commits, nothing printed.");
        AtomicThreads x = new AtomicThreads();
        for (int t = 0; t < 4; t++) {
            Check.no("cut 1 of an empty list", x.cut(t, 1));
            Check.same("state", x.state(t), AtomicThreads.IDLE);
            Check.same("step", x.step(t), -1);
        }
        Check.same("commits", x.commits(), 0);
        for (int k = -1; k < 16; k++) {
            Check.same("printed", x.printed(k), 0);
        }
        Scene.made();
        Check.text("an object that others do not change", Scene.picture(x), Scene.picture(new AtomicThreads()));
    }

    private static void addNoThread() {
        Check.about("add: False, when there is no thread t");
        Scene.changesNothing("add to no thread", x -> {
            for (int t : Numbers.NO_THREAD) {
                Check.no("add(" + t + ", ..)", x.add(t, SET, 0, 0));
            }
        });
    }

    private static void addReadyOrParked() {
        Check.about("add: False, when .. it is READY or PARKED");
        Scene.changesNothing("add to a READY and to a PARKED thread", x -> {
            Check.no("add READY", x.add(0, SET, 0, 0));
            Check.no("add PARKED", x.add(1, SET, 0, 0));
        });
    }

    private static void addFullList() {
        Check.about("add: False, when .. its list has 30 words");
        Scene.changesNothing("add to a full list", x -> {
            for (int kind = 0; kind <= 16; kind++) {
                Check.no("add of a 31st", x.add(3, kind, 0, 0));
            }
        });
        AtomicThreads x = Scene.made();
        Check.yes("cut 29", x.cut(3, 29));
        Check.yes("add of a 30th", x.add(3, SET, 0, 0));
        Check.no("add of a 31st", x.add(3, SET, 0, 0));
    }

    private static void addNoKind() {
        Check.about("add: False, when .. kind is not 0 .. 16");
        Scene.changesNothing("add of no kind", x -> {
            for (int kind : Numbers.NO_KIND) {
                Check.no("add(2, " + kind + ", ..)", x.add(2, kind, 0, 0));
            }
        });
        for (int kind = 0; kind <= 16; kind++) {
            Check.yes("add(2, " + kind + ", ..)", Scene.made().add(2, kind, 0, 0));
        }
    }

    /** Each of these numbers as the a, and then as the b, of a word whose other number is within its range. */
    private static void refusedNumbers(String name, int[] firsts, int[] seconds) {
        Scene.changesNothing("add of " + name + " with a number out of its range", x -> {
            for (int a : firsts) {
                Check.no("add " + name + " " + a, x.add(2, Words.kind(name), a, 3));
            }
            for (int b : seconds) {
                Check.no("add " + name + " 3 " + b, x.add(2, Words.kind(name), 3, b));
            }
        });
    }

    private static void addNumberOutOfRange() {
        Check.about("add: False, when .. a register or variable that the kind names is out of range.");
        int[] none = {};
        for (String name : new String[] {"SET", "PRINT", "IF", "WHILE", "THROW", "CATCH"}) {
            refusedNumbers(name, Numbers.NO_REGISTER, none);
        }
        refusedNumbers("ADD", Numbers.NO_REGISTER, Numbers.NO_REGISTER);
        refusedNumbers("SUB", Numbers.NO_REGISTER, Numbers.NO_REGISTER);
        refusedNumbers("READ", Numbers.NO_REGISTER, Numbers.NO_VARIABLE);
        refusedNumbers("WRITE", Numbers.NO_VARIABLE, Numbers.NO_REGISTER);
    }

    private static void addWrongWord() {
        Check.about("add: (A wrong word may be appended.)");
        AtomicThreads x = new AtomicThreads();
        for (String name : new String[] {"END", "OR", "ELSE", "CATCH", "READ", "WRITE", "RETRY", "EITHER"}) {
            Check.yes("add " + name, x.add(1, Words.kind(name), 0, 0));
            Check.same("check", x.check(1), 0);
        }
        Check.no("cut 9", x.cut(1, 9));
        Check.yes("cut 8", x.cut(1, 8));
        for (int k = 0; k < 6; k++) {
            Check.yes("add IF", x.add(0, Words.kind("IF"), 0, 0));
        }
        Check.same("check of six", x.check(0), 5);
        Check.yes("add ATOMIC", x.add(2, Words.kind("ATOMIC"), 0, 0));
        Check.yes("add PRINT", x.add(2, Words.kind("PRINT"), 0, 0));
        Check.yes("add ATOMIC", x.add(2, Words.kind("ATOMIC"), 0, 0));
        Check.same("check", x.check(2), 1);
    }

    private static void addMakesIdle() {
        Check.about("add: Appends a word to the list of thread t, which becomes IDLE, and answers true.");
        AtomicThreads x = Scene.made();
        Check.yes("cut", x.cut(3, 29));
        x.start(3);
        x.run(-1, 16);
        x.run(-1, 13);
        Check.same("state", x.state(3), AtomicThreads.DONE);
        Check.yes("add to a DONE thread", x.add(3, SET, 1, 77));
        Check.same("state", x.state(3), AtomicThreads.IDLE);
        Check.yes("add to a FAILED thread", x.add(2, SET, 1, 77));
        Check.same("state", x.state(2), AtomicThreads.IDLE);
        Check.same("register", x.register(2, 0), 9);
        Check.yes("start", x.start(3));
        x.run(-1, 16);
        x.run(-1, 14);
        Check.same("the word is the last", x.register(3, 1), 77);
        Check.yes("add to an IDLE thread", x.add(2, SET, 1, 78));
        Check.same("state", x.state(2), AtomicThreads.IDLE);
    }

    private static void cutNoThread() {
        Check.about("cut: False, when there is no thread t");
        Scene.changesNothing("cut of no thread", x -> {
            for (int t : Numbers.NO_THREAD) {
                Check.no("cut(" + t + ", 0)", x.cut(t, 0));
            }
        });
    }

    private static void cutReadyOrParked() {
        Check.about("cut: False, when .. it is READY or PARKED");
        Scene.changesNothing("cut of a READY and of a PARKED thread", x -> {
            for (int n : new int[] {0, 1, 11, 14, 15}) {
                Check.no("cut READY", x.cut(0, n));
                Check.no("cut PARKED", x.cut(1, n));
            }
        });
    }

    private static void cutOutOfRange() {
        Check.about("cut: False, when .. n is not from 0 to the number of its words.");
        Scene.changesNothing("cut of a list of 3", x -> {
            for (int n : Numbers.outside(4)) {
                Check.no("cut(2, " + n + ")", x.cut(2, n));
            }
        });
        Scene.changesNothing("cut of a list of 30", x -> {
            for (int n : Numbers.outside(31)) {
                Check.no("cut(3, " + n + ")", x.cut(3, n));
            }
        });
        AtomicThreads x = new AtomicThreads();
        for (int n : Numbers.outside(1)) {
            Check.no("cut of the empty list", x.cut(0, n));
        }
        Words.append(x, 0, "SET 0 0; SET 0 0; SET 0 0");
        x.cut(0, 1);
        Check.no("cut to what was there once", x.cut(0, 2));
    }

    private static void cutWithinRange() {
        Check.about("cut: Takes all words but the first n .., which becomes IDLE, and answers true (also when n is the number of"
                + " its words).");
        for (int n = 0; n <= 30; n++) {
            AtomicThreads x = Scene.made();
            Check.yes("cut(3, " + n + ")", x.cut(3, n));
            Check.same("state", x.state(3), AtomicThreads.IDLE);
            Check.yes("start", x.start(3));
            Check.same("steps", x.run(-1, 16) + x.run(-1, 16), n);
            Check.same("state", x.state(3), AtomicThreads.DONE);
        }
        AtomicThreads x = Scene.made();
        Check.yes("cut of a FAILED thread", x.cut(2, 3));
        Check.same("state", x.state(2), AtomicThreads.IDLE);
        Check.yes("cut of an empty list", new AtomicThreads().cut(0, 0));
    }

    private static void checkNoThread() {
        Check.about("check: .. -1 when the list is good, -2 when there is no thread t.");
        Scene.changesNothing("check", x -> {
            for (int t : Numbers.NO_THREAD) {
                Check.same("check(" + t + ")", x.check(t), -2);
            }
            for (int t : ANY_THREAD) {
                Check.same("check(" + t + ")", x.check(t), -1);
            }
        });
    }

    private static void checkFirstWrong() {
        Check.about("check: The place of the first wrong word of the list of thread t");
        for (int place = 0; place < 30; place++) {
            AtomicThreads x = new AtomicThreads();
            for (int k = 0; k < 30; k++) {
                x.add(3, k == place || k > place + 2 ? Words.kind("RETRY") : SET, 0, 0);
            }
            Check.same("check", x.check(3), place);
        }
        Check.same("a wrong one before an open one", Words.checked("IF 0; OR"), 1);
    }

    private static void checkOpen() {
        Check.about("check: .. when none is wrong and something is open behind the last word, the number of its words");
        for (int length = 1; length <= 30; length++) {
            AtomicThreads x = new AtomicThreads();
            x.add(2, Words.kind("WHILE"), 0, 0);
            for (int k = 1; k < length; k++) {
                x.add(2, SET, 0, 0);
            }
            Check.same("check", x.check(2), length);
        }
    }

    private static void startNoThread() {
        Check.about("start: .. false when there is no thread t");
        Scene.changesNothing("start of no thread", x -> {
            for (int t : Numbers.NO_THREAD) {
                Check.no("start(" + t + ")", x.start(t));
            }
        });
    }

    private static void startReadyOrParked() {
        Check.about("start: .. false when .. it is READY or PARKED");
        Scene.changesNothing("start of a READY and of a PARKED thread", x -> {
            Check.no("start READY", x.start(0));
            Check.no("start PARKED", x.start(1));
        });
    }

    private static void startNotGood() {
        Check.about("start: .. false when .. its list is not good.");
        for (String text : new String[] {"END", "IF 0", "SET 0 0; RETRY", "TRY; END", "SET 0 0; ".repeat(29) + "ATOMIC"}) {
            AtomicThreads x = Words.started("SET 0 8; SET 3 9");
            Words.steps(x, 0, 2);
            x.cut(0, 0);
            Words.append(x, 0, text);
            String before = Scene.picture(x);
            Check.no("start of " + text, x.start(0));
            Check.text("all behind start of " + text, Scene.picture(x), before);
            Check.same("state", x.state(0), AtomicThreads.IDLE);
            Check.same("register", x.register(0, 3), 9);
        }
    }

    private static void startEmptyList() {
        Check.about("start: .. it is READY (DONE when the list is empty).");
        for (int t : ANY_THREAD) {
            AtomicThreads x = new AtomicThreads();
            Check.yes("start", x.start(t));
            Check.same("state", x.state(t), AtomicThreads.DONE);
            Check.same("place", x.place(t), -1);
            Check.yes("start of a DONE thread", x.start(t));
            Words.load(x, t, "SET 2 5");
            Check.same("state", x.state(t), AtomicThreads.READY);
            x.step(t);
            x.cut(t, 0);
            Check.same("register", x.register(t, 2), 5);
            Check.yes("start", x.start(t));
            Check.same("registers become 0 then too", x.register(t, 2), 0);
        }
    }

    private static void startAgain() {
        Check.about("start: Starts thread t, which is IDLE, DONE or FAILED ..: all its registers and its number of discarded"
                + " attempts become 0, its place 0, no first part has begun");
        AtomicThreads x = Words.started("TRY; ATOMIC; READ 1 0; END; SET 0 1; SET 2 3; SET 3 4; CATCH; END; THROW 3");
        for (int round = 0; round < 4; round++) {
            Check.same("state", x.state(0), AtomicThreads.READY);
            Check.same("place", x.place(0), 0);
            Check.same("discards", x.discards(0), 0);
            Check.same("registers", x.register(0, 0) | x.register(0, 1) | x.register(0, 2) | x.register(0, 3), 0);
            Words.steps(x, 0, 3);
            x.put(0, 6);
            Check.same("step", x.step(0), 2);
            Check.same("run", x.run(0, 6), 6);
            Check.same("discards", x.discards(0), 1);
            if (round % 2 == 0) {
                Check.yes("stop in a first part", x.stop(0));
            } else {
                Words.steps(x, 0, 1);
                Check.same("THROW", x.step(0), 4);
                Check.same("state", x.state(0), AtomicThreads.FAILED);
            }
            Check.yes("start", x.start(0));
        }
    }

    private static void stopNoThread() {
        Check.about("stop: .. false when there is no thread t");
        Scene.changesNothing("stop of no thread", x -> {
            for (int t : Numbers.NO_THREAD) {
                Check.no("stop(" + t + ")", x.stop(t));
            }
        });
    }

    private static void stopInAnotherState() {
        Check.about("stop: .. false when .. it is in another state.");
        Scene.changesNothing("stop of a FAILED and of a DONE thread", x -> {
            Check.no("stop FAILED", x.stop(2));
            Check.no("stop DONE", x.stop(3));
        });
        AtomicThreads x = Scene.made();
        Check.yes("stop READY", x.stop(0));
        Check.no("stop IDLE", x.stop(0));
        Check.yes("stop PARKED", x.stop(1));
        Check.no("stop IDLE", x.stop(1));
        Check.no("stop of a new one", new AtomicThreads().stop(0));
    }

    private static void stopInAttempt() {
        Check.about("stop: .. its attempt, if there is one, is over with nothing changed in the variables; its registers stay as"
                + " they are.");
        AtomicThreads x = Words.started("SET 0 1; ATOMIC; SET 0 2; WRITE 0 0; READ 1 7; END; SET 0 3");
        for (int steps = 0; steps <= 6; steps++) {
            Check.same("run", x.run(0, steps), steps);
            int register = x.register(0, 0);
            int commits = x.commits();
            int value = x.value(0);
            Check.yes("stop behind " + steps, x.stop(0));
            Check.same("state", x.state(0), AtomicThreads.IDLE);
            Check.same("register", x.register(0, 0), register);
            Check.same("log", x.log(0), 0);
            Check.same("commits", x.commits(), commits);
            Check.same("value", x.value(0), value);
            Check.same("sees", x.sees(0, 0), value);
            Check.same("discards", x.discards(0), 0);
            Check.yes("start", x.start(0));
        }
    }

    private static void stepNoThread() {
        Check.about("step: .. -1, and no step, when there is no thread t");
        Scene.changesNothing("step of no thread", x -> {
            for (int t : Numbers.NO_THREAD) {
                Check.same("step(" + t + ")", x.step(t), -1);
            }
        });
    }

    private static void stepNotReady() {
        Check.about("step: .. -1, and no step, when .. it is not READY.");
        Scene.changesNothing("step of one that is not READY", x -> {
            Check.same("step PARKED", x.step(1), -1);
            Check.same("step FAILED", x.step(2), -1);
            Check.same("step DONE", x.step(3), -1);
        });
        AtomicThreads x = Scene.made();
        x.stop(0);
        String before = Scene.picture(x);
        Check.same("step IDLE", x.step(0), -1);
        Check.text("all behind it", Scene.picture(x), before);
    }

    private static void runOutOfRange() {
        Check.about("run: .. -1, and no step, when n is not 0 .. 16.");
        for (int schedule : new int[] {0, 0x55555555, -1, Numbers.LEAST, Numbers.MOST}) {
            Scene.changesNothing("run of " + schedule, x -> {
                for (int n : Numbers.outside(17)) {
                    Check.same("run(" + schedule + ", " + n + ")", x.run(schedule, n), -1);
                }
            });
        }
    }

    private static AtomicThreads loops() {
        AtomicThreads x = new AtomicThreads();
        for (int t : ANY_THREAD) {
            Words.load(x, t, "SET 0 1; SET 1 " + (t + 1) + "; WHILE 0; ADD 2 0; PRINT 1; END");
            Words.steps(x, t, 2);
        }
        return x;
    }

    private static void runOfEachLength() {
        Check.about("run: For k = 0 .. n - 1, one after the other: the thread with the number (schedule >> 2 * k) & 3 makes a"
                + " step");
        for (int n = 0; n <= 16; n++) {
            for (int schedule : new int[] {0, -1, Numbers.LEAST, Numbers.MOST, 0x1B1B1B1B, 0xE4E4E4E4}) {
                AtomicThreads x = loops();
                AtomicThreads other = loops();
                Check.same("run(" + schedule + ", " + n + ")", x.run(schedule, n), n);
                for (int k = 0; k < n; k++) {
                    other.step((schedule >> 2 * k) & 3);
                }
                Check.text("all behind run(" + schedule + ", " + n + ")", Scene.picture(x), Scene.picture(other));
            }
        }
        Scene.changesNothing("run of none", x -> Check.same("run(0, 0)", x.run(0, 0), 0));
    }

    private static void runOfNotReady() {
        Check.about("run: .. makes a step when it is READY then; nothing otherwise. Answers how many steps were made");
        Scene.changesNothing("run of those that are not READY", x -> {
            Check.same("run PARKED", x.run(0x55555555, 16), 0);
            Check.same("run FAILED", x.run(0xAAAAAAAA, 16), 0);
            Check.same("run DONE", x.run(0xFFFFFFFF, 16), 0);
        });
        AtomicThreads x = Scene.made();
        Check.same("one READY of four", x.run(0xE4E4E4E4, 16), 4);
        x.stop(0);
        Check.same("none READY of four", x.run(0xE4E4E4E4, 16), 0);
    }

    private static void runReadyThen() {
        Check.about("run: .. when it is READY then");
        AtomicThreads x = Words.started("SET 0 1; SET 0 2");
        Check.same("one that is DONE in it", x.run(0, 16), 2);
        x = Words.started("THROW 0");
        Check.same("one that is FAILED in it", x.run(0, 16), 1);
        x = Words.started("ATOMIC; READ 0 0; RETRY; END");
        Check.same("one that is PARKED in it", x.run(0, 16), 3);
        Words.load(x, 1, "ATOMIC; WRITE 0 0; END");
        Check.same("one that becomes READY in it", x.run(0b00_00_00_01_00_01_01, 7), 6);
        Check.same("state", x.state(0), AtomicThreads.PARKED);
    }

    private static void putNoVariable() {
        Check.about("put: .. false when there is no variable v.");
        Scene.changesNothing("put to no variable", x -> {
            for (int v : Numbers.NO_VARIABLE) {
                Check.no("put(" + v + ", 1)", x.put(v, 1));
            }
        });
    }

    private static void putTheSame() {
        Check.about("put: .. (also when its value was n)");
        AtomicThreads x = Scene.made();
        Check.same("value", x.value(7), 0);
        Check.yes("put", x.put(7, 0));
        Check.same("value", x.value(7), 0);
        Check.same("version", x.version(7), 2);
        Check.same("commits", x.commits(), 2);
        Check.same("it wakes", x.state(1), AtomicThreads.READY);
        Check.yes("put", x.put(7, 0));
        Check.same("version", x.version(7), 3);
        Words.steps(x, 0, 3);
        x.put(4, 6);
        Check.same("END of one that read it", x.step(0), 2);
    }

    private static void putAtTheEnds() {
        Check.about("put: .. variable v gets the value n and the number of commits as its version, .. and every PARKED thread"
                + " that has v in its read set becomes READY.");
        for (int v = 0; v < 8; v++) {
            AtomicThreads x = new AtomicThreads();
            for (int t : ANY_THREAD) {
                Words.load(x, t, "ATOMIC; READ 0 " + (t < 3 ? v : (v + 1) % 8) + "; RETRY; END");
                x.run(t * 0x55, 3);
            }
            Check.yes("put", x.put(v, v % 2 == 0 ? Numbers.LEAST : Numbers.MOST));
            Check.same("value", x.value(v), v % 2 == 0 ? Numbers.LEAST : Numbers.MOST);
            Check.same("version", x.version(v), 1);
            for (int t : ANY_THREAD) {
                Check.same("state " + t, x.state(t), t < 3 ? AtomicThreads.READY : AtomicThreads.PARKED);
            }
        }
    }

    private static void lastCalls() {
        Check.about("An object is used for at most 512 calls after it has been made");
        AtomicThreads x = new AtomicThreads();
        for (int k = 1; k <= 511; k++) {
            Check.yes("call " + k, x.put(k % 8, -k));
        }
        Check.same("call 512", x.commits(), 511);
        x = new AtomicThreads();
        for (String name : new String[] {"SET", "WHILE", "PRINT", "ATOMIC", "WRITE", "END", "END"}) {
            Check.yes("add " + name, x.add(3, Words.kind(name), 0, name.equals("SET") ? 1 : 0));
        }
        Check.yes("call 8", x.start(3));
        Check.same("call 9", x.step(3), 0);
        for (int k = 10; k <= 509; k++) {
            Check.same("call " + k, x.run(-1, 12), 12);
        }
        Check.same("call 510", x.printed(-1), 1000);
        Check.same("call 511", x.commits(), 1000);
        Check.same("call 512", x.version(0), 1000);
    }
}
