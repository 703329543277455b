import java.util.function.Consumer;

/** An object in the middle of things: its threads 0 .. 3 are READY in an attempt, PARKED, FAILED and DONE. */
final class Scene {
    private static final int[] LENGTHS = {15, 11, 3, 30};

    private Scene() {
    }

    static AtomicThreads made() {
        AtomicThreads x = new AtomicThreads();
        x.put(4, 6);
        Words.load(x, 0, "SET 0 5; TRY; ATOMIC; READ 1 0; EITHER; WRITE 2 0; READ 3 4; RETRY; OR; WRITE 3 0; END; END;"
                + "CATCH 1; END; PRINT 0");
        Words.load(x, 1, "SET 2 -3; ATOMIC; READ 0 1; READ 0 7; IF 0; WRITE 6 2; ELSE; RETRY; END; END; PRINT 0");
        Words.load(x, 2, "SET 1 9; PRINT 1; THROW 1");
        Words.load(x, 3, "PRINT 3; SET 3 8" + "; ADD 2 3".repeat(28));
        x.run(0, 7);
        x.run(0x55555555, 16);
        x.run(0xAAAAAAAA, 16);
        x.run(-1, 16);
        x.run(-1, 16);
        return x;
    }

    /** All that an object answers without being changed. */
    static String picture(AtomicThreads x) {
        StringBuilder text = new StringBuilder();
        for (int t = 0; t < 4; t++) {
            text.append("\n  thread ").append(t).append(": state ").append(x.state(t)).append(" place ").append(x.place(t))
                    .append(" check ").append(x.check(t)).append(" log ").append(x.log(t))
                    .append(" discards ").append(x.discards(t)).append(" registers");
            for (int r = 0; r < 4; r++) {
                text.append(' ').append(x.register(t, r));
            }
            text.append(" sees");
            for (int v = 0; v < 8; v++) {
                text.append(' ').append(x.sees(t, v));
            }
        }
        for (int v = 0; v < 8; v++) {
            text.append("\n  variable ").append(v).append(": value ").append(x.value(v))
                    .append(" version ").append(x.version(v)).append(" waiting ").append(x.waiting(v));
        }
        text.append("\n  commits ").append(x.commits()).append(" outcome ").append(x.outcome()).append(" printed");
        for (int k = -1; k < 16; k++) {
            text.append(' ').append(x.printed(k));
        }
        return text.toString();
    }

    /** What the object answers when the scene goes on: this shows what no answer tells at once, such as the lists. */
    private static String later(AtomicThreads x) {
        StringBuilder text = new StringBuilder();
        text.append(x.run(0, 1)).append(x.put(7, 3)).append(x.run(0x55555555, 16)).append(x.run(0, 16)).append(picture(x));
        for (int t = 0; t < 4; t++) {
            text.append(x.stop(t)).append(x.cut(t, LENGTHS[t] + 1)).append(x.cut(t, LENGTHS[t])).append(x.start(t));
            text.append(x.run(t * 0x55555555, 16));
        }
        return text.append(picture(x)).toString();
    }

    /** Does these calls on one of two equal scenes and compares all that the two answer then and later. */
    static void changesNothing(String calls, Consumer<AtomicThreads> act) {
        AtomicThreads x = made();
        AtomicThreads twin = made();
        act.accept(x);
        Check.text("all behind " + calls, picture(x), picture(twin));
        Check.text("all that follows " + calls, later(x), later(twin));
    }
}
