import java.util.ArrayList;
import java.util.List;
import java.util.Random;

/**
 * Random runs of calls, the same each time, in which the class must answer as the model does. They
 * look at an object more often than 512 times, which is more than the document promises: the class
 * counts no calls, so that nothing may change there.
 */
public final class ModelTest {
    private static final int RUNS = 4000;
    private static final int CALLS = 120;
    private static final int[] ODD = {-1, 4, 8, 16, 17, 30, 31, Integer.MIN_VALUE, Integer.MAX_VALUE};

    private final Random random;
    private final AtomicThreads x = new AtomicThreads();
    private final Model model = new Model();
    private final List<String> calls = new ArrayList<>();

    private ModelTest(long seed) {
        random = new Random(seed);
    }

    public static void main(String[] args) {
        int[] stepAnswers = new int[6];
        for (int seed = 0; seed < RUNS && !Check.anyWrong(); seed++) {
            ModelTest test = new ModelTest(seed);
            test.run(stepAnswers);
            if (Check.anyWrong()) {
                System.out.println("run " + seed + ": " + String.join(", ", test.calls));
            }
        }
        for (int answer = 0; answer < stepAnswers.length; answer++) {
            Check.yes("steps that answered " + (answer - 1) + ": " + stepAnswers[answer], stepAnswers[answer] > 1000);
        }
        Check.end();
    }

    private void run(int[] stepAnswers) {
        for (int t = 0; t < 4; t++) {
            give(t);
            both("start", x.start(t), model.start(t), t);
        }
        for (int k = 0; k < CALLS && !Check.anyWrong(); k++) {
            call(stepAnswers);
            compare();
        }
    }

    /** Mostly good lists, some with a word changed. */
    private void give(int t) {
        List<String> words = new ArrayList<>();
        block(words, 0, false, 24);
        if (random.nextInt(12) == 0 && !words.isEmpty()) {
            words.set(random.nextInt(words.size()), anyWord());
        }
        for (String word : words) {
            add(t, word);
        }
    }

    private String anyWord() {
        return Words.NAMES.get(random.nextInt(17)) + " " + random.nextInt(4) + " " + random.nextInt(4);
    }

    private void add(int t, String word) {
        String[] parts = word.split(" ");
        int kind = Words.kind(parts[0]);
        int a = parts.length > 1 ? Integer.parseInt(parts[1]) : 0;
        int b = parts.length > 2 ? Integer.parseInt(parts[2]) : 0;
        both("add", x.add(t, kind, a, b), model.add(t, kind, a, b), t, kind, a, b);
    }

    private void block(List<String> words, int depth, boolean atomic, int room) {
        int limit = words.size() + room;
        int most = 1 + random.nextInt(depth == 0 ? 8 : 4);
        for (int k = 0; k < most && words.size() + 4 < limit; k++) {
            int left = limit - words.size();
            if (depth < 5 && left >= 7 && random.nextInt(5) < 2) {
                group(words, depth, atomic, left - 3);
            } else {
                words.add(plainWord(atomic));
            }
        }
    }

    private void group(List<String> words, int depth, boolean atomic, int room) {
        int half = room / 2;
        switch (random.nextInt(atomic ? 5 : 8)) {
            case 0 -> {
                words.add("IF " + register());
                block(words, depth + 1, atomic, half);
                if (random.nextBoolean()) {
                    words.add("ELSE");
                    block(words, depth + 1, atomic, half);
                }
            }
            case 1 -> {
                words.add("WHILE " + register());
                block(words, depth + 1, atomic, room);
            }
            case 2 -> {
                words.add("TRY");
                block(words, depth + 1, atomic, half);
                words.add("CATCH " + register());
                block(words, depth + 1, atomic, half);
            }
            default -> {
                words.add(atomic ? "EITHER" : "ATOMIC");
                block(words, depth + 1, true, atomic ? half : room);
                if (atomic) {
                    words.add("OR");
                    block(words, depth + 1, true, half);
                }
            }
        }
        words.add("END");
    }

    private String plainWord(boolean atomic) {
        switch (random.nextInt(10)) {
            case 0:
            case 1:
                return "SET " + register() + " " + (random.nextInt(9) == 0 ? random.nextInt() : random.nextInt(5) - 1);
            case 2:
                return "ADD " + register() + " " + register();
            case 3:
                return "SUB " + register() + " " + register();
            case 4:
                return random.nextInt(3) == 0 ? "THROW " + register() : "SET " + register() + " 1";
            case 5:
                return atomic ? "RETRY" : "PRINT " + register();
            case 6:
            case 7:
                return atomic ? "WRITE " + variable() + " " + register() : "PRINT " + register();
            default:
                return atomic ? "READ " + register() + " " + variable() : "SET " + register() + " 2";
        }
    }

    private int register() {
        return random.nextInt(4);
    }

    /** Few variables, so that the threads meet often. */
    private int variable() {
        return random.nextInt(4) == 0 ? random.nextInt(8) : random.nextInt(3);
    }

    private int orOdd(int n) {
        return random.nextInt(25) == 0 ? ODD[random.nextInt(ODD.length)] : n;
    }

    private void call(int[] stepAnswers) {
        int t = orOdd(random.nextInt(4));
        switch (random.nextInt(48)) {
            case 0 -> both("stop", x.stop(t), model.stop(t), t);
            case 1 -> {
                int n = orOdd(random.nextInt(31));
                both("cut", x.cut(t, n), model.cut(t, n), t, n);
            }
            case 2 -> add(t, anyWord());
            case 3 -> {
                if (t >= 0 && t < 4 && random.nextInt(3) == 0) {
                    both("cut", x.cut(t, 0), model.cut(t, 0), t, 0);
                    give(t);
                }
            }
            case 4, 5, 6, 7, 12, 13 -> both("start", x.start(t), model.start(t), t);
            case 8, 9, 14, 15 -> {
                int v = orOdd(variable());
                int n = random.nextInt(4);
                both("put", x.put(v, n), model.put(v, n), v, n);
            }
            case 10, 11 -> {
                int schedule = random.nextInt();
                int n = orOdd(random.nextInt(17));
                both("run", x.run(schedule, n), model.run(schedule, n), schedule, n);
            }
            default -> {
                int answer = x.step(t);
                both("step", answer, model.step(t), t);
                if (answer >= -1 && answer <= 4) {
                    stepAnswers[answer + 1]++;
                }
            }
        }
    }

    private void both(String call, boolean got, boolean want, int... numbers) {
        both(call, got ? 1 : 0, want ? 1 : 0, numbers);
    }

    private void both(String call, int got, int want, int... numbers) {
        StringBuilder text = new StringBuilder(call).append('(');
        for (int i = 0; i < numbers.length; i++) {
            text.append(i == 0 ? "" : ", ").append(numbers[i]);
        }
        calls.add(text.append(')').toString());
        Check.same(text.toString(), got, want);
    }

    private void compare() {
        for (int t = -1; t <= 4; t++) {
            Check.same("state " + t, x.state(t), model.state(t));
            Check.same("place " + t, x.place(t), model.place(t));
            Check.same("log " + t, x.log(t), model.log(t));
            Check.same("check " + t, x.check(t), model.check(t));
            Check.same("discards " + t, x.discards(t), model.discards(t));
            for (int r = -1; r <= 4; r++) {
                Check.same("register " + t + " " + r, x.register(t, r), model.register(t, r));
            }
            for (int v = -1; v <= 8; v++) {
                Check.same("sees " + t + " " + v, x.sees(t, v), model.sees(t, v));
            }
        }
        for (int v = -1; v <= 8; v++) {
            Check.same("value " + v, x.value(v), model.value(v));
            Check.same("version " + v, x.version(v), model.version(v));
            Check.same("waiting " + v, x.waiting(v), model.waiting(v));
        }
        Check.same("commits", x.commits(), model.commits());
        Check.same("outcome", x.outcome(), model.outcome());
        for (int k = -2; k <= 16; k++) {
            Check.same("printed " + k, x.printed(k), model.printed(k));
        }
    }
}
