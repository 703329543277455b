import java.util.List;

/** Lists of words as texts: "SET 1 5; ATOMIC; READ 0 2; END". Numbers that are left out are 0. */
final class Words {
    static final List<String> NAMES = List.of("SET", "ADD", "SUB", "READ", "WRITE", "PRINT", "ATOMIC", "END",
            "RETRY", "EITHER", "OR", "IF", "ELSE", "WHILE", "THROW", "TRY", "CATCH");

    private Words() {
    }

    static int kind(String name) {
        return NAMES.indexOf(name);
    }

    /** Appends the words to the list of thread t. */
    static void append(AtomicThreads x, int t, String text) {
        for (String word : text.split(";")) {
            String[] parts = word.trim().split(" +");
            int a = parts.length > 1 ? Integer.parseInt(parts[1]) : 0;
            int b = parts.length > 2 ? Integer.parseInt(parts[2]) : 0;
            Check.yes("add " + word, x.add(t, kind(parts[0]), a, b));
        }
    }

    /** A new object whose thread 0 has this list and is started. */
    static AtomicThreads started(String text) {
        AtomicThreads x = new AtomicThreads();
        load(x, 0, text);
        return x;
    }

    /** Gives thread t this list and starts it. */
    static void load(AtomicThreads x, int t, String text) {
        append(x, t, text);
        Check.yes("start(" + t + ") of " + text, x.start(t));
    }

    /** What check answers for this list. */
    static int checked(String text) {
        AtomicThreads x = new AtomicThreads();
        append(x, 0, text);
        return x.check(0);
    }

    /** Makes n steps of thread t that all answer 0. */
    static void steps(AtomicThreads x, int t, int n) {
        for (int k = 0; k < n; k++) {
            Check.same("step(" + t + ") at " + x.place(t), x.step(t), 0);
        }
    }
}
