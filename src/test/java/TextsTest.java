/** Promises 9 to 15: the buffer, snapshots, and undo. */
public final class TextsTest {
    private static final Class<IndexOutOfBoundsException> RANGE = IndexOutOfBoundsException.class;
    private static final Class<IllegalArgumentException> ARGUMENT = IllegalArgumentException.class;
    private static final Class<IllegalStateException> STATE = IllegalStateException.class;

    /** A text, and the index of its first syntax error. */
    private static final Object[][] ERRORS = {
        {"", 0}, {"/", 1}, {"a", 1}, {"abcd/dcba", 9}, {"e", 0}, {"A", 0}, {"`", 0}, {"ab!", 2}, {"~/", 0},
        {"2", 0}, {"/2", 1}, {"a/2", 2}, {"a2/", 3}, {"a9b9c6/", 7}, {"a0", 1}, {"a1", 1}, {"a2", 2}, {"a9", 2},
        {"a:", 1}, {"a.", 1}, {"a23", 2}, {"a2b3", 4}, {"a/b/", 3}, {"//", 1}, {"a/b/c", 3},
        {"a9a9a7", 5}, {"a9a9a6", 6}, {"a9a9a6a", 6}, {"a9a9a6/", 7}, {"a9a9a5a2", 7}, {"a9a9a5a", 7},
        {"a9a9a5a/b9b9b6", 14}, {"a9a9a5a/b9b9b7", 13}, {"a9a9a6/b9b9b6b", 13}, {"/b9b9b6/", 7},
        {"abcdabcdabcdabcdabcdabcd", 24}, {"abcdabcdabcdabcdabcdabcda", 24}, {"abcdabcdabcdabcdabcdabcd2", 24},
        {"abcdabcdabcdabcdabcdabcd/abcdabcdabcdabcdabcdabcd", 49},
        {"abcdabcdabcdabcdabcdabcd/abcdabcdabcdabcdabcdabcda", 49},
    };

    public static void main(String[] args) {
        append();
        appendWrong();
        clearBuffer();
        firstError();
        read();
        readWrong();
        keep();
        restore();
        undo();
        undoLeaves();
        Due.end();
    }

    private static void append() {
        AnchorChains x = new AnchorChains();
        Due.same("9: append the lowest", x.append(33), 1);
        Due.same("9: append the highest", x.append(126), 2);
        for (int length = 3; length <= 60; length++) {
            Due.same("9: append", x.append('a'), length);
        }
        Due.same("9: not undoable", x.count(14), 0);
    }

    private static void appendWrong() {
        AnchorChains x = new AnchorChains();
        int[] codes = {32, 127, 0, -1, Integer.MIN_VALUE, Integer.MAX_VALUE};
        for (int code : codes) {
            Due.failsAndKeeps(x, "9: append " + code, ARGUMENT, () -> x.append(code));
        }
        Due.type(x, "a".repeat(60));
        Due.failsAndKeeps(x, "9: append the 61st", STATE, () -> x.append('a'));
        for (int code : codes) {
            Due.failsAndKeeps(x, "9: append as 61st " + code, ARGUMENT, () -> x.append(code));
        }
        Due.same("9: 60 are kept", x.clearBuffer(), 60);
        Due.same("9: append to a cleared buffer", x.append('b'), 1);
    }

    private static void clearBuffer() {
        AnchorChains x = Due.rows("abc/abd");
        Due.type(x, "ab!");
        Due.same("10: clearBuffer()", x.clearBuffer(), 3);
        Due.same("10: clearBuffer() again", x.clearBuffer(), 0);
        Due.same("10: firstError()", x.firstError(), 0);
        Due.same("10: not undoable", x.count(14), 1);
        Due.same("10: rows stay", Due.text(x), "abc/abd");
    }

    private static void firstError() {
        for (Object[] error : ERRORS) {
            AnchorChains x = new AnchorChains();
            Due.type(x, (String) error[0]);
            long before = x.digest();
            Due.same("11: " + error[0], x.firstError(), (Integer) error[1]);
            Due.same("11: nothing is changed by " + error[0], x.digest(), before);
        }
        AnchorChains x = new AnchorChains();
        Due.type(x, "e".repeat(60));
        Due.same("11: 60 characters", x.firstError(), 0);
    }

    private static void read() {
        String[][] texts = {{"/", "/"}, {"a/", "a/"}, {"/d", "/d"}, {"ab2c/d3", "abbc/ddd"},
            {"a2a3/b9", "aaaaa/bbbbbbbbb"}, {"a9a9a6/bcdb", "a".repeat(24) + "/bcdb"}};
        for (String[] text : texts) {
            AnchorChains x = Due.rows("abc/dcb");
            Due.type(x, text[0]);
            x.read();
            Due.same("12: read " + text[0], Due.text(x), text[1]);
            Due.same("12: the buffer is cleared", x.clearBuffer(), 0);
            Due.same("12: saved", x.count(14), 2);
            x.undo();
            Due.same("12: undone", Due.text(x), "abc/dcb");
            Due.same("12: undo leaves the buffer", x.clearBuffer(), 0);
        }
        AnchorChains x = new AnchorChains();
        Due.type(x, "abcd/abcd");
        Due.same("12: read() answers the anchors", x.read(), 2);
    }

    private static void readWrong() {
        String[] texts = {"", "a", "abcd", "a//", "a/b/", "e/", "a1/", "a9b9c7/", "/a23", "2/"};
        for (String text : texts) {
            AnchorChains x = Due.rows("abc/dcb");
            Due.type(x, text);
            Due.failsAndKeeps(x, "12: read " + text, ARGUMENT, x::read);
            Due.same("12: the buffer stays", x.clearBuffer(), text.length());
        }
    }

    private static void keep() {
        AnchorChains x = Due.rows("abc/dc");
        Due.same("13: keep(0)", x.keep(0), 5);
        Due.same("13: one is taken", x.count(13), 1);
        Due.same("13: keep(0) again", x.keep(0), 5);
        Due.same("13: one is taken still", x.count(13), 1);
        x.put(1, 2, 0);
        Due.same("13: keep(1)", x.keep(1), 6);
        Due.same("13: two are taken", x.count(13), 2);
        Due.same("13: not undoable", x.count(14), 2);
        for (int snapshot : new int[] {-1, 2, Integer.MIN_VALUE, Integer.MAX_VALUE}) {
            Due.failsAndKeeps(x, "13: keep " + snapshot, RANGE, () -> x.keep(snapshot));
        }
        x.undo();
        x.undo();
        Due.same("13: undo leaves the snapshots", x.count(13), 2);
        Due.same("13: keep(1) of empty rows", x.keep(1), 0);
        x.restore(0);
        Due.same("13: the first one", Due.text(x), "abc/dc");
        Due.same("13: the second one", x.restore(1), 0);
    }

    private static void restore() {
        AnchorChains x = Due.rows("abc/dc");
        x.set(0, 5);
        Due.failsAndKeeps(x, "14: restore(0)", STATE, () -> x.restore(0));
        x.keep(1);
        Due.failsAndKeeps(x, "14: restore(0) that was not taken", STATE, () -> x.restore(0));
        for (int snapshot : new int[] {-1, 2, Integer.MIN_VALUE, Integer.MAX_VALUE}) {
            Due.failsAndKeeps(x, "14: restore " + snapshot, RANGE, () -> x.restore(snapshot));
        }
        x.set(0, 2);
        x.take(0, 0, 3);
        x.change(1, 0, 0);
        Due.same("14: restore(1)", x.restore(1), 5);
        Due.same("14: rows", Due.text(x), "abc/dc");
        Due.same("14: settings stay", x.setting(0), 2);
        Due.same("14: saved", x.count(14), 6);
        x.undo();
        Due.same("14: undone", Due.text(x), "/ac");
        x.put(0, 0, 3);
        Due.same("14: the snapshot stays", x.restore(1), 5);
        x.turn(0, 0, 2);
        Due.same("14: and is not the rows themselves", x.restore(1), 5);
        Due.same("14: rows", Due.text(x), "abc/dc");
    }

    private static void undo() {
        AnchorChains x = new AnchorChains();
        for (int i = 0; i < 8; i++) {
            x.put(0, i, i % 4);
            Due.same("15: saved", x.count(14), Math.min(i + 1, 6));
        }
        for (int left = 5; left >= 0; left--) {
            Due.same("15: undo()", x.undo(), left);
            Due.same("15: signs", x.count(0), left + 2);
        }
        Due.failsAndKeeps(x, "15: undo() without a state", STATE, x::undo);
        Due.same("15: rows", Due.text(x), "ab/");
        x.put(1, 0, 0);
        Due.same("15: undo() again", x.undo(), 0);
    }

    private static void undoLeaves() {
        AnchorChains x = Due.rows("abcd/abcd");
        x.set(0, 2);
        Due.type(x, "ab");
        x.keep(0);
        Due.same("15: anchors", x.count(2), 3);
        x.undo();
        Due.same("15: the setting", x.setting(0), 3);
        Due.same("15: anchors of the state before", x.count(2), 2);
        x.undo();
        Due.same("15: the rows", Due.text(x), "/");
        Due.same("15: the cost", x.count(6), 0);
        Due.same("15: the buffer stays", x.clearBuffer(), 2);
        Due.same("15: the snapshot stays", x.count(13), 1);
    }
}
