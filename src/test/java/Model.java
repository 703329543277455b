import java.util.ArrayList;
import java.util.Arrays;
import java.util.List;
import java.util.Map;
import java.util.TreeMap;
import java.util.TreeSet;

/**
 * The document written down a second time, slowly and from other parts: it looks for what belongs
 * together each time anew, copies whatever is noted, and compares versions one by one.
 */
final class Model {
    private record Word(String name, int a, int b) {
    }

    /** A first part that has begun and not ended; kept from the outermost to the innermost. */
    private record Part(String name, int place, int[] registers, Map<Integer, Integer> writes) {
    }

    private static final class Attempt {
        private int place;
        private int[] registers;
        private int[] versions;
        private final TreeSet<Integer> reads = new TreeSet<>();
        private TreeMap<Integer, Integer> writes = new TreeMap<>();
        private final List<Part> parts = new ArrayList<>();
    }

    private static final class Thread {
        private final List<Word> list = new ArrayList<>();
        private int[] registers = new int[4];
        private int state = 0;
        private int place = 0;
        private int discards = 0;
        private Attempt attempt = null;
        private final List<Part> parts = new ArrayList<>();
        private final TreeSet<Integer> sleepsOn = new TreeSet<>();
    }

    private final Thread[] threads = {new Thread(), new Thread(), new Thread(), new Thread()};
    private final int[] values = new int[8];
    private final int[] versions = new int[8];
    private final List<Integer> prints = new ArrayList<>();
    private int commits = 0;

    private static boolean within(int n, int limit) {
        return 0 <= n && n < limit;
    }

    boolean add(int t, int kind, int a, int b) {
        if (!within(t, 4) || !within(kind, 17)) {
            return false;
        }
        String name = Words.NAMES.get(kind);
        boolean named = switch (name) {
            case "ADD", "SUB" -> within(a, 4) && within(b, 4);
            case "READ" -> within(a, 4) && within(b, 8);
            case "WRITE" -> within(a, 8) && within(b, 4);
            case "SET", "PRINT", "IF", "WHILE", "THROW", "CATCH" -> within(a, 4);
            default -> true;
        };
        Thread thread = threads[t];
        if (!named || thread.state == 1 || thread.state == 2 || thread.list.size() == 30) {
            return false;
        }
        thread.list.add(new Word(name, a, b));
        thread.state = 0;
        return true;
    }

    boolean cut(int t, int n) {
        if (!within(t, 4)) {
            return false;
        }
        Thread thread = threads[t];
        if (thread.state == 1 || thread.state == 2 || !within(n, thread.list.size() + 1)) {
            return false;
        }
        thread.list.subList(n, thread.list.size()).clear();
        thread.state = 0;
        return true;
    }

    /** Small letters stand for what has had its OR, ELSE or CATCH. */
    int check(int t) {
        if (!within(t, 4)) {
            return -2;
        }
        String open = "";
        List<Word> list = threads[t].list;
        for (int p = 0; p < list.size(); p++) {
            String name = list.get(p).name;
            String last = open.isEmpty() ? "" : open.substring(open.length() - 1);
            boolean atomic = open.contains("A");
            boolean wrong = switch (name) {
                case "END" -> last.isEmpty() || last.equals("E") || last.equals("T");
                case "OR" -> !last.equals("E");
                case "ELSE" -> !last.equals("I");
                case "CATCH" -> !last.equals("T");
                case "READ", "WRITE", "RETRY", "EITHER" -> !atomic;
                case "PRINT", "ATOMIC" -> atomic;
                default -> false;
            };
            boolean opens = opens(name);
            if (wrong || opens && open.length() == 5) {
                return p;
            }
            if (opens) {
                open += name.charAt(0);
            } else if (name.equals("END")) {
                open = open.substring(0, open.length() - 1);
            } else if (isMiddle(name)) {
                open = open.substring(0, open.length() - 1) + last.toLowerCase();
            }
        }
        return open.isEmpty() ? -1 : list.size();
    }

    private static boolean opens(String name) {
        return List.of("ATOMIC", "EITHER", "IF", "WHILE", "TRY").contains(name);
    }

    private static boolean isMiddle(String name) {
        return List.of("OR", "ELSE", "CATCH").contains(name);
    }

    /** From place p on, at the depth there: the END, or, when middles count too, the OR, ELSE or CATCH. */
    private static int forward(List<Word> list, int p, boolean middles) {
        int depth = 0;
        for (int q = p + 1; q < list.size(); q++) {
            String name = list.get(q).name;
            if (depth == 0 && (name.equals("END") || middles && isMiddle(name))) {
                return q;
            }
            depth += opens(name) ? 1 : name.equals("END") ? -1 : 0;
        }
        throw new IllegalStateException("a good list ends what it opens");
    }

    private static int opener(List<Word> list, int p) {
        int depth = 0;
        for (int q = p - 1; q >= 0; q--) {
            String name = list.get(q).name;
            if (depth == 0 && opens(name)) {
                return q;
            }
            depth += name.equals("END") ? 1 : opens(name) ? -1 : 0;
        }
        throw new IllegalStateException("an END of a good list has an opener");
    }

    boolean start(int t) {
        if (!within(t, 4) || threads[t].state == 1 || threads[t].state == 2 || check(t) != -1) {
            return false;
        }
        Thread thread = threads[t];
        thread.registers = new int[4];
        thread.discards = 0;
        thread.parts.clear();
        thread.attempt = null;
        thread.place = 0;
        thread.state = thread.list.isEmpty() ? 3 : 1;
        return true;
    }

    boolean stop(int t) {
        if (!within(t, 4) || threads[t].state != 1 && threads[t].state != 2) {
            return false;
        }
        threads[t].state = 0;
        threads[t].attempt = null;
        threads[t].sleepsOn.clear();
        return true;
    }

    int run(int schedule, int n) {
        if (!within(n, 17)) {
            return -1;
        }
        int made = 0;
        for (int k = 0; k < n; k++) {
            made += step((schedule >>> 2 * k) % 4 & 3) >= 0 ? 1 : 0;
        }
        return made;
    }

    int step(int t) {
        if (!within(t, 4) || threads[t].state != 1) {
            return -1;
        }
        Thread thread = threads[t];
        int answer = word(thread, thread.list.get(thread.place));
        if (thread.state == 1 && thread.place == thread.list.size()) {
            thread.state = 3;
        }
        return answer;
    }

    private int word(Thread thread, Word word) {
        int here = thread.place;
        int[] regs = thread.registers;
        thread.place = here + 1;
        switch (word.name) {
            case "SET" -> regs[word.a] = word.b;
            case "ADD" -> regs[word.a] += regs[word.b];
            case "SUB" -> regs[word.a] -= regs[word.b];
            case "PRINT" -> prints.add(regs[word.a]);
            case "IF" -> thread.place = regs[word.a] > 0 ? here + 1 : forward(thread.list, here, true) + 1;
            case "WHILE" -> thread.place = regs[word.a] > 0 ? here + 1 : forward(thread.list, here, false) + 1;
            case "ELSE" -> thread.place = forward(thread.list, here, false) + 1;
            case "TRY", "EITHER" -> partsNow(thread).add(part(thread, word.name, here));
            case "CATCH", "OR" -> {
                List<Part> parts = partsNow(thread);
                parts.remove(parts.size() - 1);
                thread.place = forward(thread.list, here, false) + 1;
            }
            case "ATOMIC" -> {
                thread.attempt = new Attempt();
                thread.attempt.place = here;
                thread.attempt.registers = regs.clone();
                thread.attempt.versions = versions.clone();
            }
            case "WRITE" -> thread.attempt.writes.put(word.a, regs[word.b]);
            case "READ" -> {
                return read(thread, word.a, word.b);
            }
            case "RETRY" -> {
                return retry(thread);
            }
            case "THROW" -> {
                return thrown(thread, regs[word.a]);
            }
            case "END" -> {
                return end(thread, here);
            }
            default -> throw new IllegalStateException(word.name);
        }
        return 0;
    }

    private static List<Part> partsNow(Thread thread) {
        return thread.attempt == null ? thread.parts : thread.attempt.parts;
    }

    private static Part part(Thread thread, String name, int place) {
        Map<Integer, Integer> writes = thread.attempt == null ? Map.of() : Map.copyOf(thread.attempt.writes);
        return new Part(name, place, thread.registers.clone(), writes);
    }

    private int read(Thread thread, int r, int v) {
        Attempt attempt = thread.attempt;
        if (attempt.writes.containsKey(v)) {
            thread.registers[r] = attempt.writes.get(v);
            return 0;
        }
        if (versions[v] != attempt.versions[v]) {
            return discarded(thread);
        }
        attempt.reads.add(v);
        thread.registers[r] = values[v];
        return 0;
    }

    private boolean isStale(Thread thread) {
        for (int v : thread.attempt.reads) {
            if (versions[v] != thread.attempt.versions[v]) {
                return true;
            }
        }
        return false;
    }

    private static void over(Thread thread) {
        thread.registers = thread.attempt.registers;
        thread.place = thread.attempt.place;
        thread.attempt = null;
    }

    private static int discarded(Thread thread) {
        over(thread);
        thread.discards++;
        return 2;
    }

    /** The latest of this name ends, with all that began in it, or null when there is none. */
    private static Part takeLatest(Thread thread, String name) {
        List<Part> parts = partsNow(thread);
        for (int i = parts.size() - 1; i >= 0; i--) {
            Part part = parts.get(i);
            if (part.name.equals(name)) {
                parts.subList(i, parts.size()).clear();
                thread.registers = part.registers.clone();
                if (thread.attempt != null) {
                    thread.attempt.writes = new TreeMap<>(part.writes);
                }
                thread.place = forward(thread.list, part.place, true) + 1;
                return part;
            }
        }
        return null;
    }

    private int retry(Thread thread) {
        if (takeLatest(thread, "EITHER") != null) {
            return 0;
        }
        if (isStale(thread)) {
            return discarded(thread);
        }
        thread.sleepsOn.addAll(thread.attempt.reads);
        over(thread);
        thread.state = 2;
        return 3;
    }

    private int thrown(Thread thread, int x) {
        Part part = takeLatest(thread, "TRY");
        if (part != null) {
            thread.registers[thread.list.get(thread.place - 1).a] = x;
            return 4;
        }
        if (thread.attempt == null) {
            thread.registers[0] = x;
            thread.state = 4;
            return 4;
        }
        if (isStale(thread)) {
            return discarded(thread);
        }
        over(thread);
        return thrown(thread, x);
    }

    private int end(Thread thread, int here) {
        int opener = opener(thread.list, here);
        String name = thread.list.get(opener).name;
        if (name.equals("WHILE")) {
            thread.place = opener;
        }
        if (!name.equals("ATOMIC")) {
            return 0;
        }
        if (isStale(thread)) {
            return discarded(thread);
        }
        commit(thread.attempt.writes);
        thread.attempt = null;
        return 1;
    }

    private void commit(Map<Integer, Integer> writes) {
        if (writes.isEmpty()) {
            return;
        }
        commits++;
        for (Map.Entry<Integer, Integer> write : writes.entrySet()) {
            values[write.getKey()] = write.getValue();
            versions[write.getKey()] = commits;
            for (Thread thread : threads) {
                if (thread.state == 2 && thread.sleepsOn.contains(write.getKey())) {
                    thread.state = 1;
                    thread.sleepsOn.clear();
                }
            }
        }
    }

    boolean put(int v, int n) {
        if (!within(v, 8)) {
            return false;
        }
        commit(Map.of(v, n));
        return true;
    }

    int value(int v) {
        return within(v, 8) ? values[v] : 0;
    }

    int version(int v) {
        return within(v, 8) ? versions[v] : 0;
    }

    int commits() {
        return commits;
    }

    int state(int t) {
        return within(t, 4) ? threads[t].state : -1;
    }

    int place(int t) {
        return within(t, 4) && (threads[t].state == 1 || threads[t].state == 2) ? threads[t].place : -1;
    }

    int register(int t, int r) {
        return within(t, 4) && within(r, 4) ? threads[t].registers[r] : 0;
    }

    int sees(int t, int v) {
        if (!within(t, 4) || !within(v, 8)) {
            return 0;
        }
        Attempt attempt = threads[t].attempt;
        return attempt == null ? values[v] : attempt.writes.getOrDefault(v, values[v]);
    }

    int log(int t) {
        if (!within(t, 4)) {
            return 0;
        }
        Attempt attempt = threads[t].attempt;
        int sum = 0;
        for (int v = 0; v < 8; v++) {
            boolean isRead = attempt != null ? attempt.reads.contains(v) : threads[t].sleepsOn.contains(v);
            sum += isRead ? (int) Math.pow(2, v) : 0;
            sum += attempt != null && attempt.writes.containsKey(v) ? 256 * (int) Math.pow(2, v) : 0;
        }
        return sum;
    }

    int waiting(int v) {
        return (int) Arrays.stream(threads).filter(thread -> thread.state == 2 && thread.sleepsOn.contains(v)).count();
    }

    int discards(int t) {
        return within(t, 4) ? threads[t].discards : 0;
    }

    int outcome() {
        List<Integer> states = Arrays.stream(threads).map(thread -> thread.state).toList();
        return states.contains(1) ? 0 : states.contains(2) ? 2 : 1;
    }

    int printed(int k) {
        if (k == -1) {
            return prints.size();
        }
        return within(k, 16) && k < prints.size() ? prints.get(prints.size() - 1 - k) : 0;
    }
}
