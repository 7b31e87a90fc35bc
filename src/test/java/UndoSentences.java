/** The sentences under "Snapshots, undo" and "Exceptions", and of the promises 13 to 15. */
final class UndoSentences {
    private static final Class<IndexOutOfBoundsException> RANGE = IndexOutOfBoundsException.class;
    private static final Class<IllegalStateException> STATE = IllegalStateException.class;
    private static final int[] NO_SNAPSHOTS = {-1, 2, 3, Integer.MIN_VALUE, Integer.MAX_VALUE};
    private static final String FULL = "abcdabcdabcdabcdabcdabcd";
    private static final int UNDOABLE = 9;

    private UndoSentences() {
    }

    static void all() {
        snapshots();
        bothRows();
        savedStates();
        savedFullRows();
        savedThoughNothingChanges();
        notSaved();
        refusedIsNotSaved();
        atMostSix();
        none();
        keep();
        keepFails();
        restore();
        restoreFails();
        undo();
        undoFails();
    }

    private static void snapshots() {
        Due.says(0, "There are two snapshots, numbered 0 and 1, at first none.");
        AnchorChains x = Due.rows("ab/c");
        Due.same("taken at first", x.count(13), 0);
        Due.fails("restore(0) at first", STATE, () -> x.restore(0));
        Due.fails("restore(1) at first", STATE, () -> x.restore(1));
        x.keep(1);
        Due.same("taken then", x.count(13), 1);
        Due.fails("restore(0) yet", STATE, () -> x.restore(0));
        x.take(0, 0, 1);
        x.keep(0);
        Due.same("both taken", x.count(13), 2);
        x.restore(1);
        Due.same("the one", Due.text(x), "ab/c");
        x.restore(0);
        Due.same("the other one", Due.text(x), "b/c");
        Due.fails("a snapshot ahead of 0", RANGE, () -> x.keep(-1));
        Due.fails("a snapshot behind 1", RANGE, () -> x.keep(2));
    }

    private static void bothRows() {
        Due.says(0, "Each keeps both rows.");
        for (String rows : new String[] {"/", "ab/", "/cd", "abc/dd", FULL + "/" + TermSentences.back(FULL)}) {
            for (int snapshot = 0; snapshot < 2; snapshot++) {
                AnchorChains x = Due.rows(rows);
                x.set(0, 5);
                Due.type(x, "ab");
                x.keep(snapshot);
                x.exchange();
                x.set(0, 2);
                x.clearBuffer();
                Due.type(x, "dcba/abcd");
                x.read();
                x.append('c');
                x.restore(snapshot);
                Due.same("rows " + rows + " restored", Due.text(x), rows);
                Due.same("the setting is not", x.setting(0), 2);
                Due.same("the buffer is not", x.clearBuffer(), 1);
                Due.same("the saved states are not", x.count(14), 6);
            }
        }
    }

    private static void call(AnchorChains x, int undoable) {
        switch (undoable) {
            case 0 -> x.put(0, 1, 3);
            case 1 -> x.take(1, 0, 1);
            case 2 -> x.change(0, 0, 2);
            case 3 -> x.turn(0, 0, 1);
            case 4 -> x.copy(0, 0, 1, 1);
            case 5 -> x.exchange();
            case 6 -> x.set(2, 7);
            case 7 -> x.read();
            default -> x.restore(0);
        }
    }

    private static void savedStates() {
        Due.says(0, "Each method that is marked \"undoable\" and does not throw an exception saves the state from "
                + "before it (also if it changes nothing): all but the buffer, the snapshots and the saved states.");
        for (int undoable = 0; undoable < UNDOABLE; undoable++) {
            String told = "undoable call " + undoable;
            AnchorChains x = Due.rows("cab/ba");
            x.keep(0);
            x.set(3, 9);
            x.put(1, 2, 3);
            Due.type(x, "dd/dd");
            String state = Twins.state(x);
            call(x, undoable);
            Due.same("saved states after " + told, x.count(14), 4);
            x.clearBuffer();
            Due.type(x, "abc");
            x.keep(1);
            String snapshot = Due.text(x);
            x.undo();
            Due.same("rows and settings from before " + told, Twins.state(x), state);
            Due.same("saved states then", x.count(14), 3);
            Due.same("the buffer stays as it is", x.clearBuffer(), 3);
            Due.same("the snapshots stay", x.count(13), 2);
            x.restore(1);
            Due.same("the one from behind it, too", Due.text(x), snapshot);
        }
    }

    /** Six states of full rows of other signs each, so that each sign of each state counts. */
    private static void savedFullRows() {
        AnchorChains x = Due.rows(FULL + "/" + TermSentences.back(FULL));
        String[] states = new String[6];
        for (int i = 0; i < 6; i++) {
            states[i] = Twins.state(x);
            Due.type(x, FULL.substring(i) + FULL.substring(0, i) + "/");
            Due.type(x, FULL.substring(6 - i) + FULL.substring(0, 6 - i));
            x.read();
        }
        for (int i = 5; i >= 0; i--) {
            Due.same("undo() of full rows", x.undo(), i);
            Due.same("full rows then", Twins.state(x), states[i]);
        }
    }

    private static void savedThoughNothingChanges() {
        AnchorChains x = Due.rows("aba/aba");
        x.keep(0);
        Due.type(x, "aba/aba");
        String state = Twins.state(x);
        x.change(0, 1, 1);
        x.turn(1, 0, 2);
        x.exchange();
        x.set(0, 3);
        x.read();
        Due.same("five calls that change nothing", x.count(14), 6);
        x.restore(0);
        Due.same("a sixth one", x.count(14), 6);
        for (int left = 5; left >= 0; left--) {
            Due.same("undo() of one of them", x.undo(), left);
            Due.same("rows and settings then", Twins.state(x), state);
        }
    }

    private static void notSaved() {
        AnchorChains x = Due.rows("abcd/dcba");
        x.keep(0);
        x.keep(1);
        x.append('a');
        x.firstError();
        x.clearBuffer();
        x.sign(0, 0);
        x.partner(0, 0);
        x.turned(0, 0);
        x.gap(0, 0);
        x.doubled(0, 0);
        x.setting(0);
        x.ifSet(0, 2);
        x.ifChanged(0, 0, 1);
        x.bestLength();
        x.likeShare();
        x.digest();
        Due.same("saved states after calls that are not undoable", x.count(14), 1);
        x.undo();
        Due.same("the one saved state", Due.text(x), "/");
    }

    private static void refusedIsNotSaved() {
        AnchorChains x = Due.rows("ab/" + FULL);
        Due.fails("put(1, 0, 0)", STATE, () -> x.put(1, 0, 0));
        Due.fails("take(0, 2, 1)", RANGE, () -> x.take(0, 2, 1));
        Due.fails("change(0, 0, 4)", IllegalArgumentException.class, () -> x.change(0, 0, 4));
        Due.fails("turn(0, 1, 0)", IllegalArgumentException.class, () -> x.turn(0, 1, 0));
        Due.fails("copy(0, 0, 0, 1)", STATE, () -> x.copy(0, 0, 0, 1));
        Due.fails("set(4, 0)", RANGE, () -> x.set(4, 0));
        Due.fails("read()", IllegalArgumentException.class, x::read);
        Due.fails("restore(0)", STATE, () -> x.restore(0));
        Due.same("saved states after calls that threw an exception", x.count(14), 1);
        x.undo();
        Due.same("the one saved state", Due.text(x), "/");
    }

    private static void atMostSix() {
        Due.says(0, "At most 6 states are saved; the oldest one is dropped first.");
        for (int calls = 0; calls <= 14; calls++) {
            AnchorChains x = new AnchorChains();
            for (int i = 0; i < calls; i++) {
                x.put(0, i, i % 4);
            }
            int saved = Math.min(6, calls);
            Due.same("saved states after " + calls + " calls", x.count(14), saved);
            for (int left = saved - 1; left >= 0; left--) {
                Due.same("undo() of " + calls + " calls", x.undo(), left);
                Due.same("rows then", Due.text(x), FULL.substring(0, calls - saved + left) + "/");
            }
            Due.fails("undo() of one more than saved, of " + calls, STATE, x::undo);
            Due.same("rows then", Due.text(x), FULL.substring(0, calls - saved) + "/");
        }
        AnchorChains x = new AnchorChains();
        for (int i = 0; i < 7; i++) {
            x.set(3, i + 10);
        }
        x.undo();
        x.undo();
        x.set(3, 20);
        Due.same("four and one", x.count(14), 5);
        int[] bands = {14, 13, 12, 11, 10};
        for (int band : bands) {
            x.undo();
            Due.same("the band from before it", x.setting(3), band);
        }
        Due.same("none is left", x.count(14), 0);
    }

    private static void none() {
        Due.says(0, "The constants: NONE = -1: There is nothing to return.");
        Due.same("NONE", AnchorChains.NONE, -1);
        AnchorChains x = Due.rows("abcd/c");
        Due.same("a sign that is left out", x.partner(0, 0), AnchorChains.NONE);
        Due.same("a gap too many", x.gap(1, 0), AnchorChains.NONE);
        Due.same("no doubled stretch", x.doubled(0, 1), AnchorChains.NONE);
    }

    private static void keep() {
        Due.says(13, "Takes a snapshot, in place of the one with its number.");
        AnchorChains x = Due.rows("ab/c");
        x.keep(0);
        x.keep(1);
        x.put(1, 1, 3);
        x.keep(0);
        x.exchange();
        x.restore(0);
        Due.same("the one in place of the first one", Due.text(x), "ab/cd");
        x.restore(1);
        Due.same("the other one stays", Due.text(x), "ab/c");
        Due.same("two are taken still", x.count(13), 2);
        Twins.notUndoable("abc/d", "", "keep(0)", y -> y.keep(0));

        Due.says(13, "snapshot: 0 or 1");
        for (int snapshot = 0; snapshot < 2; snapshot++) {
            AnchorChains y = Due.rows("ab/c");
            y.keep(snapshot);
            y.take(0, 0, 2);
            y.restore(snapshot);
            Due.same("restore(" + snapshot + ")", Due.text(y), "ab/c");
        }

        Due.says(13, "Returns how many signs both rows have.");
        Due.same("keep(0) of empty rows", new AnchorChains().keep(0), 0);
        Due.same("keep(1) of empty rows", new AnchorChains().keep(1), 0);
        Due.same("keep(0) of an upper row", Due.rows("abc/").keep(0), 3);
        Due.same("keep(0) of a lower row", Due.rows("/abc").keep(0), 3);
        Due.same("keep(1) of full rows", Due.rows(FULL + "/" + FULL).keep(1), 48);
    }

    private static void keepFails() {
        Due.says(13, "Throws IndexOutOfBoundsException if there is no such snapshot");
        for (int snapshot : NO_SNAPSHOTS) {
            Twins.refuses("ab/c", "keep(" + snapshot + ")", RANGE, x -> x.keep(snapshot));
            AnchorChains x = new AnchorChains();
            Due.fails("keep(" + snapshot + ") of a new object", RANGE, () -> x.keep(snapshot));
            Due.same("taken then", x.count(13), 0);
        }
    }

    private static void restore() {
        Due.says(14, "Restores a snapshot, which stays.");
        AnchorChains x = Due.rows("ab/cd");
        x.keep(0);
        for (int times = 0; times < 3; times++) {
            x.change(0, 0, 3);
            x.take(1, 0, 2);
            x.restore(0);
            Due.same("rows", Due.text(x), "ab/cd");
            Due.same("taken still", x.count(13), 1);
        }

        Due.says(14, "Undoable.");
        Twins.undoable("abc/d", "ab/!", "restore(0)", y -> y.restore(0));
        Twins.undoable("abc/d", "", "restore(1)", y -> y.restore(1));
        AnchorChains same = Due.rows("ab/cd");
        same.keep(0);
        same.restore(0);
        Due.same("restore(0) to the same rows", same.undo(), 1);
        Due.same("rows", Due.text(same), "ab/cd");

        Due.says(14, "snapshot: 0 or 1");
        AnchorChains both = Due.rows("ab/cd");
        both.keep(0);
        both.exchange();
        both.keep(1);
        both.restore(0);
        Due.same("restore(0)", Due.text(both), "ab/cd");
        both.restore(1);
        Due.same("restore(1)", Due.text(both), "cd/ab");

        Due.says(14, "Returns how many signs both rows have then.");
        for (String rows : new String[] {"/", "a/", "/b", "ab/cd", FULL + "/" + FULL}) {
            AnchorChains y = Due.rows(rows);
            y.keep(1);
            Due.type(y, "abc/ab");
            y.read();
            Due.same("restore(1) of " + rows, y.restore(1), rows.length() - 1);
        }
    }

    private static void restoreFails() {
        Due.says(14, "Throws IndexOutOfBoundsException if there is no such snapshot");
        for (int snapshot : NO_SNAPSHOTS) {
            Twins.refuses("ab/c", "restore(" + snapshot + ")", RANGE, x -> x.restore(snapshot));
            Due.fails("restore(" + snapshot + ") of a new object", RANGE, () -> new AnchorChains().restore(snapshot));
        }

        Due.says(14, "Throws IllegalStateException if it was not taken");
        for (int snapshot = 0; snapshot < 2; snapshot++) {
            int each = snapshot;
            AnchorChains x = Due.rows("ab/c");
            Due.failsAndKeeps(x, "restore(" + each + "), none taken", STATE, () -> x.restore(each));
            x.keep(1 - each);
            Due.failsAndKeeps(x, "restore(" + each + "), the other one taken", STATE, () -> x.restore(each));
            Due.same("restore of the other one", x.restore(1 - each), 3);
            Due.failsAndKeeps(x, "restore(" + each + ") after that", STATE, () -> x.restore(each));
        }
    }

    private static void undo() {
        Due.says(15, "Restores the latest saved state, and drops it.");
        AnchorChains x = Due.rows("ab/c");
        x.set(0, 5);
        x.put(0, 0, 3);
        x.undo();
        Due.same("the latest one", Twins.state(x), "ab/c 5 2 3 4");
        x.undo();
        Due.same("the one before", Twins.state(x), "ab/c 3 2 3 4");
        x.undo();
        Due.same("the first one", Twins.state(x), "/ 3 2 3 4");
        x.put(0, 0, 3);
        x.undo();
        Due.same("a new one", Twins.state(x), "/ 3 2 3 4");
        AnchorChains y = Due.rows("abcd/abcd");
        long digest = y.digest();
        y.change(0, 0, 2);
        y.digest();
        y.undo();
        Due.same("what follows from the rows", y.digest(), digest);

        Due.says(15, "Returns how many saved states are left.");
        AnchorChains z = new AnchorChains();
        for (int i = 0; i < 10; i++) {
            z.exchange();
        }
        for (int left = 5; left >= 0; left--) {
            Due.same("undo()", z.undo(), left);
            Due.same("count(14)", z.count(14), left);
        }
    }

    private static void undoFails() {
        Due.says(15, "Throws IllegalStateException if there is none");
        AnchorChains x = new AnchorChains();
        Due.failsAndKeeps(x, "undo() of a new object", STATE, x::undo);
        x.append('a');
        x.keep(0);
        Due.failsAndKeeps(x, "undo() after calls that are not undoable", STATE, x::undo);
        Due.same("the buffer stays", x.clearBuffer(), 1);
        Due.same("the snapshot stays", x.count(13), 1);
        x.put(0, 0, 3);
        x.undo();
        Due.failsAndKeeps(x, "undo() again", STATE, x::undo);
        AnchorChains y = Due.rows("abc/d");
        for (int i = 0; i < 7; i++) {
            y.exchange();
        }
        for (int i = 0; i < 6; i++) {
            y.undo();
        }
        Due.failsAndKeeps(y, "a seventh undo()", STATE, y::undo);
        Due.same("rows then", Due.text(y), "d/abc");
    }
}
