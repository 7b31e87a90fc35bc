import java.util.function.Consumer;

/**
 * Objects made alike, with a full row of saved states and both snapshots. A call on one of them is told by all that it
 * leaves behind: the digest, each saved state, each snapshot, and the buffer.
 */
final class Twins {
    private Twins() {
    }

    /** The rows are read last, so that they and the buffer are the ones that are asked for. */
    static AnchorChains busy(String rows, String buffer) {
        AnchorChains x = Due.rows("dabc/cbada");
        x.keep(0);
        x.set(1, 5);
        x.put(1, 2, 3);
        x.keep(1);
        x.change(0, 1, 2);
        x.set(1, 2);
        x.exchange();
        Due.type(x, rows);
        x.read();
        Due.type(x, buffer);
        return x;
    }

    static String trace(AnchorChains x) {
        StringBuilder trace = new StringBuilder();
        trace.append(x.digest());
        while (x.count(14) > 0) {
            x.undo();
            trace.append(' ').append(x.digest());
        }
        for (int snapshot = 0; snapshot < 2; snapshot++) {
            trace.append(snapshotTrace(x, snapshot));
        }
        return trace.append(' ').append(x.firstError()).append(' ').append(x.clearBuffer()).toString();
    }

    private static String snapshotTrace(AnchorChains x, int snapshot) {
        try {
            x.restore(snapshot);
            return " " + x.digest();
        } catch (IllegalStateException e) {
            return " none";
        }
    }

    /** Tried twice: right after a change, and after all that follows from the rows has been asked for. */
    static void keepsAll(String rows, String buffer, String call, Consumer<AnchorChains> run) {
        String due = trace(busy(rows, buffer));
        AnchorChains x = busy(rows, buffer);
        run.accept(x);
        Due.same("what " + call + " leaves of " + rows + " " + buffer, trace(x), due);
        AnchorChains y = busy(rows, buffer);
        y.digest();
        run.accept(y);
        Due.same("what " + call + " leaves of " + rows + " " + buffer + " after digest()", trace(y), due);
    }

    static void refuses(String rows, String buffer, String call, Class<? extends RuntimeException> due,
            Consumer<AnchorChains> run) {
        keepsAll(rows, buffer, call, x -> Due.fails(call + " of " + rows + " " + buffer, due, () -> run.accept(x)));
    }

    static void refuses(String rows, String call, Class<? extends RuntimeException> due, Consumer<AnchorChains> run) {
        refuses(rows, "ab/!", call, due, run);
    }

    /** What undo is to bring back: the rows and the settings. */
    static String state(AnchorChains x) {
        StringBuilder state = new StringBuilder(Due.text(x));
        for (int setting = 0; setting < 4; setting++) {
            state.append(' ').append(x.setting(setting));
        }
        return state.toString();
    }

    /** The call is tried with no saved state but that of the rows, and with six. */
    static void undoable(String rows, String buffer, String call, Consumer<AnchorChains> run) {
        AnchorChains x = Due.rows(rows);
        Due.type(x, buffer);
        x.keep(0);
        x.keep(1);
        String state = state(x);
        run.accept(x);
        Due.same("saved states after " + call, x.count(14), 2);
        Due.same("undo() of " + call, x.undo(), 1);
        Due.same("rows and settings after undo() of " + call, state(x), state);
        AnchorChains y = busy(rows, buffer);
        run.accept(y);
        Due.same("saved states after " + call + " behind six", y.count(14), 6);
        Due.same("undo() of " + call + " behind six", y.undo(), 5);
        Due.same("rows and settings after undo() of " + call + " behind six", state(y), state);
    }

    static void notUndoable(String rows, String buffer, String call, Consumer<AnchorChains> run) {
        AnchorChains x = Due.rows(rows);
        Due.type(x, buffer);
        run.accept(x);
        Due.same("saved states after " + call, x.count(14), 1);
        x.undo();
        Due.same("rows after undo() behind " + call, Due.text(x), "/");
    }
}
