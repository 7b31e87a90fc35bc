/** Promises 1 to 8: a new object, and the calls that change rows and settings. */
public final class RowsTest {
    private static final Class<IndexOutOfBoundsException> RANGE = IndexOutOfBoundsException.class;
    private static final Class<IllegalArgumentException> ARGUMENT = IllegalArgumentException.class;
    private static final Class<IllegalStateException> STATE = IllegalStateException.class;
    private static final int[] FAR = {-1, 2, 24, 25, Integer.MIN_VALUE, Integer.MAX_VALUE};
    private static final String FULL = "abcdabcdabcdabcdabcdabcd";

    public static void main(String[] args) {
        newObject();
        put();
        putWrong();
        take();
        takeWrong();
        change();
        turn();
        turnWrong();
        copy();
        copyWrong();
        exchange();
        set();
        setWrong();
        Due.end();
    }

    private static void newObject() {
        AnchorChains x = new AnchorChains();
        for (int what = 0; what < 15; what++) {
            Due.same("1: count(" + what + ")", x.count(what), what == 5 ? 1 : 0);
        }
        int[] settings = {3, 2, 3, 4};
        for (int setting = 0; setting < 4; setting++) {
            Due.same("1: setting(" + setting + ")", x.setting(setting), settings[setting]);
        }
        Due.same("1: firstError()", x.firstError(), 0);
        Due.same("1: clearBuffer()", x.clearBuffer(), 0);
        Due.fails("1: undo()", STATE, x::undo);
        Due.fails("1: restore(0)", STATE, () -> x.restore(0));
        Due.fails("1: restore(1)", STATE, () -> x.restore(1));
        Due.fails("1: read()", ARGUMENT, x::read);
    }

    private static void put() {
        AnchorChains x = new AnchorChains();
        Due.same("2: put into an empty row", x.put(0, 0, 1), 1);
        Due.same("2: put behind the last one", x.put(0, 1, 3), 2);
        Due.same("2: put ahead of the first one", x.put(0, 0, 0), 3);
        Due.same("2: put between", x.put(0, 2, 2), 4);
        Due.same("2: put below", x.put(1, 0, 3), 1);
        Due.same("2: rows", Due.text(x), "abcd/d");
        Due.same("2: saved", x.count(14), 5);
        x.undo();
        x.undo();
        Due.same("2: undone", Due.text(x), "abd/");
        AnchorChains y = Due.rows(FULL.substring(1) + "/");
        Due.same("2: the 24th sign", y.put(0, 23, 0), 24);
        Due.same("2: 24 signs", Due.text(y), FULL.substring(1) + "a/");
    }

    private static void putWrong() {
        AnchorChains x = Due.rows("ab/" + FULL);
        for (int far : FAR) {
            Due.failsAndKeeps(x, "2: put row " + far, RANGE, () -> x.put(far, 0, 9));
        }
        Due.failsAndKeeps(x, "2: put(0, 3, 0)", RANGE, () -> x.put(0, 3, 0));
        Due.failsAndKeeps(x, "2: put(0, -1, 0)", RANGE, () -> x.put(0, -1, 0));
        Due.failsAndKeeps(x, "2: put at the greatest number", RANGE, () -> x.put(0, Integer.MAX_VALUE, 0));
        Due.failsAndKeeps(x, "2: put(0, 3, 4)", RANGE, () -> x.put(0, 3, 4));
        Due.failsAndKeeps(x, "2: put(0, 2, 4)", ARGUMENT, () -> x.put(0, 2, 4));
        Due.failsAndKeeps(x, "2: put(0, 2, -1)", ARGUMENT, () -> x.put(0, 2, -1));
        Due.failsAndKeeps(x, "2: put into a full row", STATE, () -> x.put(1, 24, 3));
        Due.failsAndKeeps(x, "2: put into a full row too far", RANGE, () -> x.put(1, 25, 3));
        Due.failsAndKeeps(x, "2: put a wrong sign into a full row", ARGUMENT, () -> x.put(1, 0, 4));
    }

    private static void take() {
        AnchorChains x = Due.rows("abcdab/" + FULL);
        Due.same("3: take from between", x.take(0, 1, 2), 4);
        Due.same("3: rows", Due.text(x), "adab/" + FULL);
        Due.same("3: take the last ones", x.take(0, 2, 2), 2);
        Due.same("3: take the first one", x.take(0, 0, 1), 1);
        Due.same("3: rows", Due.text(x), "d/" + FULL);
        Due.same("3: take the only one", x.take(0, 0, 1), 0);
        Due.same("3: take all 24", x.take(1, 0, 24), 0);
        Due.same("3: saved", x.count(14), 6);
        x.undo();
        Due.same("3: undone", Due.text(x), "/" + FULL);
    }

    private static void takeWrong() {
        AnchorChains x = Due.rows("abcd/");
        for (int far : FAR) {
            Due.failsAndKeeps(x, "3: take row " + far, RANGE, () -> x.take(far, 0, 0));
        }
        Due.failsAndKeeps(x, "3: take from an empty row", RANGE, () -> x.take(1, 0, 1));
        Due.failsAndKeeps(x, "3: take(0, 4, 1)", RANGE, () -> x.take(0, 4, 1));
        Due.failsAndKeeps(x, "3: take(0, -1, 1)", RANGE, () -> x.take(0, -1, 1));
        Due.failsAndKeeps(x, "3: take(0, 4, 0)", RANGE, () -> x.take(0, 4, 0));
        Due.failsAndKeeps(x, "3: take(0, 0, 0)", ARGUMENT, () -> x.take(0, 0, 0));
        Due.failsAndKeeps(x, "3: take(0, 0, -1)", ARGUMENT, () -> x.take(0, 0, -1));
        Due.failsAndKeeps(x, "3: take(0, 0, 5)", ARGUMENT, () -> x.take(0, 0, 5));
        Due.failsAndKeeps(x, "3: take(0, 3, 2)", ARGUMENT, () -> x.take(0, 3, 2));
        Due.failsAndKeeps(x, "3: take the most", ARGUMENT, () -> x.take(0, 3, Integer.MAX_VALUE));
        Due.failsAndKeeps(x, "3: take the least", ARGUMENT, () -> x.take(0, 3, Integer.MIN_VALUE));
    }

    private static void change() {
        AnchorChains x = Due.rows("abc/d");
        Due.same("4: change(0, 2, 0)", x.change(0, 2, 0), 2);
        Due.same("4: change(1, 0, 1)", x.change(1, 0, 1), 3);
        Due.same("4: change to the same", x.change(0, 1, 1), 1);
        Due.same("4: rows", Due.text(x), "aba/b");
        Due.same("4: saved, without a change too", x.count(14), 4);
        x.undo();
        x.undo();
        Due.same("4: undone", Due.text(x), "aba/d");
        for (int far : FAR) {
            Due.failsAndKeeps(x, "4: change row " + far, RANGE, () -> x.change(far, 0, 9));
        }
        Due.failsAndKeeps(x, "4: change(0, 3, 0)", RANGE, () -> x.change(0, 3, 0));
        Due.failsAndKeeps(x, "4: change(0, -1, 0)", RANGE, () -> x.change(0, -1, 0));
        Due.failsAndKeeps(x, "4: change(0, 3, 4)", RANGE, () -> x.change(0, 3, 4));
        Due.failsAndKeeps(x, "4: change(0, 0, 4)", ARGUMENT, () -> x.change(0, 0, 4));
        Due.failsAndKeeps(x, "4: change(0, 0, -1)", ARGUMENT, () -> x.change(0, 0, -1));
    }

    private static void turn() {
        AnchorChains x = Due.rows("abcda/abccba");
        Due.same("5: turn an even stretch", x.turn(0, 0, 3), 4);
        Due.same("5: rows", Due.text(x), "dcbaa/abccba");
        Due.same("5: turn an odd stretch", x.turn(0, 0, 2), 2);
        Due.same("5: rows", Due.text(x), "bcdaa/abccba");
        Due.same("5: turn like signs", x.turn(0, 3, 4), 0);
        Due.same("5: turn one sign", x.turn(0, 4, 4), 0);
        Due.same("5: turn what is the same read backwards", x.turn(1, 0, 5), 0);
        Due.same("5: saved, without a change too", x.count(14), 6);
        Due.same("5: rows", Due.text(x), "bcdaa/abccba");
        Due.same("5: turn some", x.turn(1, 1, 5), 4);
        Due.same("5: rows", Due.text(x), "bcdaa/aabccb");
        x.undo();
        Due.same("5: undone", Due.text(x), "bcdaa/abccba");
    }

    private static void turnWrong() {
        AnchorChains x = Due.rows("abc/");
        for (int far : FAR) {
            Due.failsAndKeeps(x, "5: turn row " + far, RANGE, () -> x.turn(far, 1, 0));
        }
        Due.failsAndKeeps(x, "5: turn(0, 0, 3)", RANGE, () -> x.turn(0, 0, 3));
        Due.failsAndKeeps(x, "5: turn(0, -1, 2)", RANGE, () -> x.turn(0, -1, 2));
        Due.failsAndKeeps(x, "5: turn(0, 3, 0)", RANGE, () -> x.turn(0, 3, 0));
        Due.failsAndKeeps(x, "5: turn(0, 2, -1)", RANGE, () -> x.turn(0, 2, -1));
        Due.failsAndKeeps(x, "5: turn an empty row", RANGE, () -> x.turn(1, 0, 0));
        Due.failsAndKeeps(x, "5: turn(0, 2, 1)", ARGUMENT, () -> x.turn(0, 2, 1));
    }

    private static void copy() {
        AnchorChains x = Due.rows("abcd/d");
        Due.same("6: copy to the other row", x.copy(0, 1, 2, 1), 3);
        Due.same("6: rows", Due.text(x), "abcd/dbc");
        Due.same("6: copy to the same row", x.copy(0, 2, 3, 0), 6);
        Due.same("6: copy a whole row behind itself", x.copy(0, 0, 5, 0), 12);
        Due.same("6: rows", Due.text(x), "abcdcdabcdcd/dbc");
        Due.same("6: copy one sign up", x.copy(1, 0, 0, 0), 13);
        Due.same("6: saved", x.count(14), 5);
        x.undo();
        Due.same("6: copy up to 24", x.copy(0, 0, 11, 0), 24);
        Due.same("6: rows", Due.text(x), "abcdcdabcdcdabcdcdabcdcd/dbc");
        x.undo();
        Due.same("6: undone", Due.text(x), "abcdcdabcdcd/dbc");
    }

    private static void copyWrong() {
        AnchorChains x = Due.rows("abc/" + FULL.substring(1));
        for (int far : FAR) {
            Due.failsAndKeeps(x, "6: copy row " + far, RANGE, () -> x.copy(far, 1, 0, 0));
            Due.failsAndKeeps(x, "6: copy goal " + far, RANGE, () -> x.copy(0, 1, 0, far));
        }
        Due.failsAndKeeps(x, "6: copy(0, 0, 3, 0)", RANGE, () -> x.copy(0, 0, 3, 0));
        Due.failsAndKeeps(x, "6: copy(0, 3, 0, 0)", RANGE, () -> x.copy(0, 3, 0, 0));
        Due.failsAndKeeps(x, "6: copy(0, -1, 0, 0)", RANGE, () -> x.copy(0, -1, 0, 0));
        Due.failsAndKeeps(x, "6: copy(0, 1, -1, 0)", RANGE, () -> x.copy(0, 1, -1, 0));
        Due.failsAndKeeps(x, "6: copy(0, 2, 1, 0)", ARGUMENT, () -> x.copy(0, 2, 1, 0));
        Due.failsAndKeeps(x, "6: copy(0, 2, 0, 1)", ARGUMENT, () -> x.copy(0, 2, 0, 1));
        Due.failsAndKeeps(x, "6: copy two behind 23", STATE, () -> x.copy(0, 0, 1, 1));
        Due.failsAndKeeps(x, "6: copy 23 behind 23", STATE, () -> x.copy(1, 0, 22, 1));
        Due.same("6: copy one behind 23", x.copy(0, 2, 2, 1), 24);
        Due.failsAndKeeps(x, "6: copy one behind 24", STATE, () -> x.copy(0, 2, 2, 1));
    }

    private static void exchange() {
        AnchorChains x = Due.rows("abcd/dabc");
        Due.same("7: exchange()", x.exchange(), 1);
        Due.same("7: rows", Due.text(x), "dabc/abcd");
        Due.same("7: anchor(0, 0)", x.anchor(0, 0), 1);
        Due.same("7: anchor(0, 1)", x.anchor(0, 1), 0);
        Due.same("7: saved", x.count(14), 2);
        AnchorChains y = Due.rows(FULL + "/ab");
        Due.same("7: rows of other lengths", y.exchange(), 0);
        Due.same("7: rows", Due.text(y), "ab/" + FULL);
        y.undo();
        Due.same("7: undone", Due.text(y), FULL + "/ab");
        Due.same("7: empty rows", new AnchorChains().exchange(), 0);
    }

    private static void set() {
        int[] first = {3, 2, 3, 4};
        int[] low = {2, 0, 0, 0};
        int[] high = {5, 9, 9, 24};
        for (int i = 0; i < 4; i++) {
            AnchorChains x = new AnchorChains();
            Due.same("8: set to the least", x.set(i, low[i]), first[i]);
            Due.same("8: set to the greatest", x.set(i, high[i]), low[i]);
            Due.same("8: set to the same", x.set(i, high[i]), high[i]);
            for (int other = 0; other < 4; other++) {
                Due.same("8: setting", x.setting(other), other == i ? high[i] : first[other]);
            }
            Due.same("8: saved, without a change too", x.count(14), 3);
            x.undo();
            x.undo();
            Due.same("8: undone", x.setting(i), low[i]);
        }
    }

    private static void setWrong() {
        AnchorChains x = Due.rows("abc/abd");
        int[] low = {2, 0, 0, 0};
        int[] high = {5, 9, 9, 24};
        for (int i = 0; i < 4; i++) {
            int setting = i;
            Due.failsAndKeeps(x, "8: set too low", ARGUMENT, () -> x.set(setting, low[setting] - 1));
            Due.failsAndKeeps(x, "8: set too high", ARGUMENT, () -> x.set(setting, high[setting] + 1));
            Due.failsAndKeeps(x, "8: set the least", ARGUMENT, () -> x.set(setting, Integer.MIN_VALUE));
            Due.failsAndKeeps(x, "8: set the most", ARGUMENT, () -> x.set(setting, Integer.MAX_VALUE));
        }
        Due.failsAndKeeps(x, "8: set(4, 3)", RANGE, () -> x.set(4, 3));
        Due.failsAndKeeps(x, "8: set(-1, 3)", RANGE, () -> x.set(-1, 3));
        Due.failsAndKeeps(x, "8: set(4, 99)", RANGE, () -> x.set(4, 99));
        Due.failsAndKeeps(x, "8: the least setting", RANGE, () -> x.set(Integer.MIN_VALUE, 3));
    }
}
