/** The sentences under "Exceptions": what a refused call changes, and which exception comes first. */
final class ExceptionSentences {
    private static final Class<IndexOutOfBoundsException> RANGE = IndexOutOfBoundsException.class;
    private static final Class<IllegalArgumentException> ARGUMENT = IllegalArgumentException.class;
    private static final Class<IllegalStateException> STATE = IllegalStateException.class;
    private static final String FULL = "abcdabcdabcdabcdabcdabcd";
    private static final int[] EDGES = {Integer.MIN_VALUE, -1, 0, 1, 2, 3, 4, 5, 6, 9, 10, 14, 15, 22, 23, 24, 25,
        Integer.MAX_VALUE};
    private static final int[] ROWS = {Integer.MIN_VALUE, -1, 0, 1, 2, Integer.MAX_VALUE};
    private static final String[] STATES = {"/", "a/", "abcd/dcba", FULL.substring(1) + "/" + FULL, FULL + "/d"};

    private ExceptionSentences() {
    }

    static void all() {
        changesNothing();
        Due.says(0, "If several exceptions apply, the one that is named first in the throws clause is thrown.");
        for (String state : STATES) {
            firstOfPlace(state);
            firstOfCopy(state);
            firstOfSetting(state);
            firstOfAnchors(state);
        }
        firstOfAppend();
        firstOfRestore();
    }

    private static void changesNothing() {
        Due.says(0, "A call that throws an exception changes nothing.");
        String full = "ab/" + FULL;
        Twins.refuses(full, "put(0, 3, 0)", RANGE, x -> x.put(0, 3, 0));
        Twins.refuses(full, "put(0, 0, 4)", ARGUMENT, x -> x.put(0, 0, 4));
        Twins.refuses(full, "put(1, 0, 0)", STATE, x -> x.put(1, 0, 0));
        Twins.refuses(full, "take(0, 2, 1)", RANGE, x -> x.take(0, 2, 1));
        Twins.refuses(full, "take(0, 0, 3)", ARGUMENT, x -> x.take(0, 0, 3));
        Twins.refuses(full, "change(0, 2, 0)", RANGE, x -> x.change(0, 2, 0));
        Twins.refuses(full, "change(0, 0, 4)", ARGUMENT, x -> x.change(0, 0, 4));
        Twins.refuses(full, "turn(1, 0, 24)", RANGE, x -> x.turn(1, 0, 24));
        Twins.refuses(full, "turn(1, 23, 0)", ARGUMENT, x -> x.turn(1, 23, 0));
        Twins.refuses(full, "copy(1, 0, 24, 0)", RANGE, x -> x.copy(1, 0, 24, 0));
        Twins.refuses(full, "copy(1, 23, 0, 0)", ARGUMENT, x -> x.copy(1, 23, 0, 0));
        Twins.refuses(full, "copy(1, 0, 22, 0)", STATE, x -> x.copy(1, 0, 22, 0));
        Twins.refuses(full, "set(4, 3)", RANGE, x -> x.set(4, 3));
        Twins.refuses(full, "set(0, 6)", ARGUMENT, x -> x.set(0, 6));
        Twins.refuses(full, "append(127)", ARGUMENT, x -> x.append(127));
        Twins.refuses(full, "a".repeat(60), "append('a')", STATE, x -> x.append('a'));
        Twins.refuses(full, "read()", ARGUMENT, AnchorChains::read);
        Twins.refuses(full, "keep(2)", RANGE, x -> x.keep(2));
        Twins.refuses(full, "restore(2)", RANGE, x -> x.restore(2));
        looksChangeNothing(full);
        AnchorChains x = new AnchorChains();
        Due.failsAndKeeps(x, "restore(1)", STATE, () -> x.restore(1));
        Due.failsAndKeeps(x, "undo()", STATE, x::undo);
    }

    private static void looksChangeNothing(String rows) {
        Twins.refuses(rows, "sign(0, 2)", RANGE, x -> x.sign(0, 2));
        Twins.refuses(rows, "anchor(24, 0)", RANGE, x -> x.anchor(24, 0));
        Twins.refuses("abc/abc", "anchor(0, 4)", ARGUMENT, x -> x.anchor(0, 4));
        Twins.refuses(rows, "turned(24, 0)", RANGE, x -> x.turned(24, 0));
        Twins.refuses("abc/cba", "turned(0, 3)", ARGUMENT, x -> x.turned(0, 3));
        Twins.refuses(rows, "gap(0, 5)", ARGUMENT, x -> x.gap(0, 5));
        Twins.refuses(rows, "partner(0, 2)", RANGE, x -> x.partner(0, 2));
        Twins.refuses(rows, "doubled(2, 0)", RANGE, x -> x.doubled(2, 0));
        Twins.refuses(rows, "doubled(0, 3)", ARGUMENT, x -> x.doubled(0, 3));
        Twins.refuses(rows, "count(15)", ARGUMENT, x -> x.count(15));
        Twins.refuses(rows, "setting(4)", RANGE, x -> x.setting(4));
        Twins.refuses(rows, "ifSet(4, 3)", RANGE, x -> x.ifSet(4, 3));
        Twins.refuses(rows, "ifSet(0, 6)", ARGUMENT, x -> x.ifSet(0, 6));
        Twins.refuses(rows, "ifChanged(0, 2, 0)", RANGE, x -> x.ifChanged(0, 2, 0));
        Twins.refuses(rows, "ifChanged(0, 0, 4)", ARGUMENT, x -> x.ifChanged(0, 0, 4));
    }

    /** How many signs a row of a state has; of a row that is none, so few that it has no place, and no end either. */
    private static int signs(String state, int row) {
        int slash = state.indexOf('/');
        return row == 0 ? slash : row == 1 ? state.length() - slash - 1 : -1;
    }

    private static boolean isPlace(String state, int row, int place) {
        return place >= 0 && place < signs(state, row);
    }

    private static boolean isWithin(int low, int value, int high) {
        return value >= low && value <= high;
    }

    private static Class<? extends RuntimeException> first(boolean range, boolean argument, boolean state) {
        return range ? RANGE : argument ? ARGUMENT : state ? STATE : null;
    }

    private static void firstOfPlace(String state) {
        for (int row : ROWS) {
            for (int place : EDGES) {
                for (int value : EDGES) {
                    firstOfPlaceAnd(state, row, place, value);
                }
            }
        }
    }

    private static void firstOfPlaceAnd(String state, int row, int place, int value) {
        int signs = signs(state, row);
        boolean away = !isPlace(state, row, place);
        boolean sign = isWithin(0, value, 3);
        String told = "(" + row + ", " + place + ", " + value + ") of " + state;
        AnchorChains x = Due.rows(state);
        Due.fails("ifChanged" + told, first(away, !sign, false), () -> x.ifChanged(row, place, value));
        Due.fails("put" + told, first(away && (signs < 0 || place != signs), !sign, signs == 24),
                () -> Due.rows(state).put(row, place, value));
        Due.fails("take" + told, first(away, !isWithin(1, value, signs - place), false),
                () -> Due.rows(state).take(row, place, value));
        Due.fails("change" + told, first(away, !sign, false), () -> Due.rows(state).change(row, place, value));
        Due.fails("turn" + told, first(away || !isPlace(state, row, value), value < place, false),
                () -> Due.rows(state).turn(row, place, value));
    }

    private static void firstOfCopy(String state) {
        for (int row : ROWS) {
            for (int goal : ROWS) {
                for (int from : EDGES) {
                    for (int to : EDGES) {
                        boolean away = !isPlace(state, row, from) || !isPlace(state, row, to) || signs(state, goal) < 0;
                        boolean state24 = !away && signs(state, goal) + to - from + 1 > 24;
                        Due.fails("copy(" + row + ", " + from + ", " + to + ", " + goal + ") of " + state,
                                first(away, to < from, state24), () -> Due.rows(state).copy(row, from, to, goal));
                    }
                }
            }
        }
    }

    private static void firstOfSetting(String state) {
        int[] low = {2, 0, 0, 0};
        int[] high = {5, 9, 9, 24};
        for (int setting : EDGES) {
            for (int value : EDGES) {
                boolean away = !isWithin(0, setting, 3);
                boolean wrong = !away && !isWithin(low[setting], value, high[setting]);
                String told = "(" + setting + ", " + value + ") of " + state;
                Due.fails("set" + told, first(away, wrong, false), () -> Due.rows(state).set(setting, value));
                Due.fails("ifSet" + told, first(away, wrong, false), () -> Due.rows(state).ifSet(setting, value));
            }
        }
    }

    private static void firstOfAnchors(String state) {
        AnchorChains x = Due.rows(state);
        int anchors = x.count(2);
        int turned = x.count(3);
        for (int number : EDGES) {
            for (int what : EDGES) {
                AnchorChains y = Due.rows(state);
                String told = "(" + number + ", " + what + ") of " + state;
                Due.fails("anchor" + told, first(!isWithin(0, number, anchors - 1), !isWithin(0, what, 3), false),
                        () -> y.anchor(number, what));
                Due.fails("turned" + told, first(!isWithin(0, number, turned - 1), !isWithin(0, what, 2), false),
                        () -> y.turned(number, what));
                Due.fails("doubled" + told, first(!isWithin(0, number, 1), !isWithin(0, what, 2), false),
                        () -> y.doubled(number, what));
                Due.fails("gap" + told, first(false, number < 0 || !isWithin(0, what, 4), false),
                        () -> y.gap(number, what));
            }
        }
    }

    private static void firstOfAppend() {
        for (int length : new int[] {0, 1, 59, 60}) {
            for (int code : new int[] {Integer.MIN_VALUE, -1, 0, 32, 33, 126, 127, Integer.MAX_VALUE}) {
                AnchorChains x = new AnchorChains();
                Due.type(x, "a".repeat(length));
                Due.fails("append(" + code + ") behind " + length, first(false, !isWithin(33, code, 126), length == 60),
                        () -> x.append(code));
            }
        }
    }

    private static void firstOfRestore() {
        for (int taken = 0; taken < 4; taken++) {
            for (int snapshot : EDGES) {
                AnchorChains x = new AnchorChains();
                for (int each = 0; each < 2; each++) {
                    if ((taken >> each) % 2 == 1) {
                        x.keep(each);
                    }
                }
                boolean away = !isWithin(0, snapshot, 1);
                boolean lacks = !away && (taken >> snapshot) % 2 == 0;
                Due.fails("restore(" + snapshot + ") with " + taken, first(away, false, lacks),
                        () -> x.restore(snapshot));
            }
        }
    }
}
