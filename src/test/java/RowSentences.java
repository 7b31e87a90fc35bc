/** The sentences of the promises 1 to 8: a new object, and the calls that change rows and settings. */
final class RowSentences {
    private static final Class<IndexOutOfBoundsException> RANGE = IndexOutOfBoundsException.class;
    private static final Class<IllegalArgumentException> ARGUMENT = IllegalArgumentException.class;
    private static final Class<IllegalStateException> STATE = IllegalStateException.class;
    private static final int LEAST = Integer.MIN_VALUE;
    private static final int MOST = Integer.MAX_VALUE;
    private static final int[] NO_ROWS = {-1, 2, LEAST, MOST};
    private static final int[] NO_SIGNS = {-1, 4, LEAST, MOST};
    private static final String FULL = "abcdabcdabcdabcdabcdabcd";
    private static final String ALMOST_FULL = "abcdabcdabcdabcdabcdabc";

    private RowSentences() {
    }

    static void all() {
        newObject();
        put();
        putWhere();
        putFails();
        take();
        takeHowMany();
        takeFails();
        change();
        changeFails();
        turn();
        turnFails();
        copy();
        copyWhere();
        copyFails();
        exchange();
        set();
        setFails();
    }

    private static void newObject() {
        Due.says(1, "Creates empty rows, with an empty buffer.");
        AnchorChains x = new AnchorChains();
        Due.same("rows", Due.text(x), "/");
        for (int what = 0; what < 15; what++) {
            Due.same("count(" + what + ")", x.count(what), what == 5 ? 1 : 0);
        }
        for (int row = 0; row < 2; row++) {
            int each = row;
            Due.fails("sign(" + row + ", 0)", RANGE, () -> x.sign(each, 0));
            Due.fails("partner(" + row + ", 0)", RANGE, () -> x.partner(each, 0));
            Due.same("doubled(" + row + ", 0)", x.doubled(row, 0), 0);
            Due.fails("restore(" + row + ")", STATE, () -> x.restore(each));
        }
        Due.fails("anchor(0, 0)", RANGE, () -> x.anchor(0, 0));
        Due.fails("turned(0, 0)", RANGE, () -> x.turned(0, 0));
        Due.fails("undo()", STATE, x::undo);
        Due.same("firstError()", x.firstError(), 0);
        Due.fails("read()", ARGUMENT, x::read);
        Due.same("clearBuffer()", x.clearBuffer(), 0);
        AnchorChains other = new AnchorChains();
        other.put(0, 0, 1);
        other.append('a');
        other.keep(0);
        Due.same("another object", x.digest(), new AnchorChains().digest());
    }

    private static void put() {
        Due.says(2, "Puts a sign into a row, ahead of a place, or behind the last one.");
        String[] due = {"dabc/ab", "adbc/ab", "abdc/ab", "abcd/ab"};
        for (int place = 0; place < 4; place++) {
            AnchorChains x = Due.rows("abc/ab");
            x.put(0, place, 3);
            Due.same("put(0, " + place + ", 3)", Due.text(x), due[place]);
        }
        AnchorChains first = Due.rows(ALMOST_FULL + "/");
        first.put(0, 0, 3);
        Due.same("a 24th sign ahead of all", Due.text(first), "d" + ALMOST_FULL + "/");
        AnchorChains last = Due.rows("/" + ALMOST_FULL);
        last.put(1, 23, 3);
        Due.same("a 24th sign behind all", Due.text(last), "/" + FULL);

        Due.says(2, "Undoable.");
        Twins.undoable("abc/d", "ab/!", "put(1, 0, 2)", x -> x.put(1, 0, 2));
        Twins.undoable(ALMOST_FULL + "/d", "", "put(0, 3, 2)", x -> x.put(0, 3, 2));
        Twins.undoable("/", "", "put(0, 0, 0)", x -> x.put(0, 0, 0));

        Due.says(2, "Returns how many signs the row has then.");
        AnchorChains x = new AnchorChains();
        for (int many = 1; many <= 24; many++) {
            Due.same("put(0, 0, 2)", x.put(0, 0, 2), many);
        }
        Due.same("put(1, 0, 2)", x.put(1, 0, 2), 1);
    }

    private static void putWhere() {
        Due.says(2, "row: 0 or 1");
        AnchorChains x = new AnchorChains();
        x.put(0, 0, 1);
        Due.same("put(0, 0, 1)", Due.text(x), "b/");
        x.put(1, 0, 2);
        Due.same("put(1, 0, 2)", Due.text(x), "b/c");

        Due.says(2, "place: 0 to the number of signs");
        for (String rows : new String[] {"/", "a/", "abcd/", ALMOST_FULL + "/"}) {
            int signs = rows.length() - 1;
            Due.same("put at 0 into " + rows, Due.rows(rows).put(0, 0, 3), signs + 1);
            Due.same("put behind the last one of " + rows, Due.rows(rows).put(0, signs, 3), signs + 1);
            Twins.refuses(rows, "put one farther", RANGE, y -> y.put(0, signs + 1, 3));
            Twins.refuses(rows, "put ahead of 0", RANGE, y -> y.put(0, -1, 3));
        }

        Due.says(2, "sign: 0 to 3");
        for (int sign = 0; sign < 4; sign++) {
            AnchorChains y = new AnchorChains();
            y.put(1, 0, sign);
            Due.same("put(1, 0, " + sign + ")", y.sign(1, 0), sign);
        }
    }

    private static void putFails() {
        Due.says(2, "Throws IndexOutOfBoundsException if there is no such row or place");
        for (int row : NO_ROWS) {
            Twins.refuses("ab/cd", "put(" + row + ", 0, 0)", RANGE, x -> x.put(row, 0, 0));
        }
        for (int place : new int[] {-1, 3, 24, 25, LEAST, MOST}) {
            Twins.refuses("ab/cd", "put(0, " + place + ", 0)", RANGE, x -> x.put(0, place, 0));
            Twins.refuses("ab/cd", "put(1, " + place + ", 0)", RANGE, x -> x.put(1, place, 0));
        }
        Twins.refuses(FULL + "/", "put one farther than the 24th", RANGE, x -> x.put(0, 25, 0));

        Due.says(2, "Throws IllegalArgumentException if sign is out of range");
        for (int sign : NO_SIGNS) {
            Twins.refuses("ab/cd", "put(0, 2, " + sign + ")", ARGUMENT, x -> x.put(0, 2, sign));
            Twins.refuses("/", "put(1, 0, " + sign + ")", ARGUMENT, x -> x.put(1, 0, sign));
        }

        Due.says(2, "Throws IllegalStateException if the row has 24 signs");
        for (int place : new int[] {0, 12, 23, 24}) {
            Twins.refuses(FULL + "/", "put(0, " + place + ", 0)", STATE, x -> x.put(0, place, 0));
            Twins.refuses("/" + FULL, "put(1, " + place + ", 0)", STATE, x -> x.put(1, place, 0));
        }
        Due.same("put into the other row", Due.rows(FULL + "/").put(1, 0, 0), 1);
        Due.same("put into the other row, 23", Due.rows(ALMOST_FULL + "/" + FULL).put(0, 0, 0), 24);
    }

    private static void take() {
        Due.says(3, "Takes signs out of a row.");
        String[] due = {"bcd/ab", "acd/ab", "abd/ab", "abc/ab"};
        for (int place = 0; place < 4; place++) {
            AnchorChains x = Due.rows("abcd/ab");
            x.take(0, place, 1);
            Due.same("take(0, " + place + ", 1)", Due.text(x), due[place]);
        }
        AnchorChains all = Due.rows("abcd/ab");
        all.take(0, 0, 4);
        Due.same("take all", Due.text(all), "/ab");
        AnchorChains below = Due.rows("abcd/" + FULL);
        below.take(1, 1, 22);
        Due.same("take(1, 1, 22)", Due.text(below), "abcd/ad");

        Due.says(3, "Undoable.");
        Twins.undoable("abc/d", "ab/!", "take(1, 0, 1)", x -> x.take(1, 0, 1));
        Twins.undoable(FULL + "/d", "", "take(0, 0, 24)", x -> x.take(0, 0, 24));
        Twins.undoable("abcd/dd", "", "take(0, 1, 2)", x -> x.take(0, 1, 2));

        Due.says(3, "Returns how many signs the row has then.");
        for (int many = 1; many <= 24; many++) {
            Due.same("take(0, 0, " + many + ")", Due.rows(FULL + "/ab").take(0, 0, many), 24 - many);
            Due.same("take(1, 0, " + many + ")", Due.rows("ab/" + FULL).take(1, 0, many), 24 - many);
        }
    }

    private static void takeHowMany() {
        Due.says(3, "row: 0 or 1");
        Due.same("take(0, 0, 1)", Due.rows("abc/ab").take(0, 0, 1), 2);
        Due.same("take(1, 0, 1)", Due.rows("abc/ab").take(1, 0, 1), 1);

        Due.says(3, "place: the place of the first one");
        AnchorChains x = Due.rows("abcd/");
        x.take(0, 3, 1);
        Due.same("take the last one", Due.text(x), "abc/");
        x.take(0, 0, 1);
        Due.same("take the first one", Due.text(x), "bc/");
        x.take(0, 1, 1);
        Due.same("take the last one of two", Due.text(x), "b/");
        x.take(0, 0, 1);
        Due.same("take the only one", Due.text(x), "/");

        Due.says(3, "many: 1 to 24, at most as many as there are from this place on");
        for (int place = 0; place < 24; place++) {
            int from = place;
            Due.same("take all from " + place, Due.rows(FULL + "/").take(0, place, 24 - place), place);
            Twins.refuses(FULL + "/", "take one more from " + place, ARGUMENT, y -> y.take(0, from, 25 - from));
        }
        Due.same("take one from 0", Due.rows("ab/").take(0, 0, 1), 1);
        Twins.refuses("ab/", "take none", ARGUMENT, y -> y.take(0, 0, 0));
    }

    private static void takeFails() {
        Due.says(3, "Throws IndexOutOfBoundsException if there is no such row or place");
        for (int row : NO_ROWS) {
            Twins.refuses("ab/cd", "take(" + row + ", 0, 1)", RANGE, x -> x.take(row, 0, 1));
        }
        for (int place : new int[] {-1, 2, 3, 24, LEAST, MOST}) {
            Twins.refuses("ab/cd", "take(0, " + place + ", 1)", RANGE, x -> x.take(0, place, 1));
            Twins.refuses("ab/cd", "take(1, " + place + ", 1)", RANGE, x -> x.take(1, place, 1));
        }
        Twins.refuses("ab/", "take from an empty row", RANGE, x -> x.take(1, 0, 1));
        Twins.refuses("/", "take from empty rows", RANGE, x -> x.take(0, 0, 1));
        Twins.refuses(FULL + "/", "take from behind the 24th", RANGE, x -> x.take(0, 24, 1));

        Due.says(3, "Throws IllegalArgumentException if many is out of range");
        for (int many : new int[] {0, -1, 3, 24, 25, LEAST, MOST}) {
            Twins.refuses("ab/cd", "take(0, 0, " + many + ")", ARGUMENT, x -> x.take(0, 0, many));
            Twins.refuses("ab/cd", "take(1, 0, " + many + ")", ARGUMENT, x -> x.take(1, 0, many));
        }
        Twins.refuses("ab/cd", "take(0, 1, 2)", ARGUMENT, x -> x.take(0, 1, 2));
        Twins.refuses(FULL + "/", "take(0, 23, the most)", ARGUMENT, x -> x.take(0, 23, MOST));
    }

    private static void change() {
        Due.says(4, "Changes a sign.");
        AnchorChains x = Due.rows("abc/ddd");
        x.change(0, 0, 3);
        Due.same("the first one", Due.text(x), "dbc/ddd");
        x.change(0, 2, 3);
        Due.same("the last one", Due.text(x), "dbd/ddd");
        x.change(1, 1, 0);
        Due.same("one below", Due.text(x), "dbd/dad");
        x.change(1, 1, 0);
        Due.same("to the same", Due.text(x), "dbd/dad");

        Due.says(4, "Undoable.");
        Twins.undoable("abc/d", "ab/!", "change(1, 0, 2)", y -> y.change(1, 0, 2));
        Twins.undoable("abc/d", "", "change(0, 1, 1), to the same", y -> y.change(0, 1, 1));
        Twins.undoable(FULL + "/d", "", "change(0, 23, 0)", y -> y.change(0, 23, 0));

        Due.says(4, "row: 0 or 1");
        AnchorChains both = Due.rows("a/b");
        both.change(0, 0, 2);
        Due.same("change(0, 0, 2)", Due.text(both), "c/b");
        both.change(1, 0, 3);
        Due.same("change(1, 0, 3)", Due.text(both), "c/d");

        Due.says(4, "place: its place");
        for (int place = 0; place < 24; place++) {
            AnchorChains y = Due.rows(FULL + "/");
            y.change(0, place, (place + 1) % 4);
            Due.same("change(0, " + place + ", ..)", Due.text(y), FULL.substring(0, place)
                    + "bcda".charAt(place % 4) + FULL.substring(place + 1) + "/");
        }
    }

    private static void changeFails() {
        Due.says(4, "sign: 0 to 3");
        for (int sign = 0; sign < 4; sign++) {
            AnchorChains x = Due.rows("b/");
            x.change(0, 0, sign);
            Due.same("change(0, 0, " + sign + ")", x.sign(0, 0), sign);
        }

        Due.says(4, "Returns the previous sign.");
        AnchorChains y = Due.rows("abcd/");
        for (int place = 0; place < 4; place++) {
            Due.same("change(0, " + place + ", 3)", y.change(0, place, 3), place);
            Due.same("change(0, " + place + ", 3) again", y.change(0, place, 3), 3);
        }

        Due.says(4, "Throws IndexOutOfBoundsException if there is no such row or place");
        for (int row : NO_ROWS) {
            Twins.refuses("ab/cd", "change(" + row + ", 0, 1)", RANGE, x -> x.change(row, 0, 1));
        }
        for (int place : new int[] {-1, 2, 3, 24, LEAST, MOST}) {
            Twins.refuses("ab/cd", "change(0, " + place + ", 1)", RANGE, x -> x.change(0, place, 1));
            Twins.refuses("ab/cd", "change(1, " + place + ", 1)", RANGE, x -> x.change(1, place, 1));
        }
        Twins.refuses("ab/", "change in an empty row", RANGE, x -> x.change(1, 0, 1));
        Twins.refuses(FULL + "/", "change behind the 24th", RANGE, x -> x.change(0, 24, 1));

        Due.says(4, "Throws IllegalArgumentException if sign is out of range");
        for (int sign : NO_SIGNS) {
            Twins.refuses("ab/cd", "change(0, 1, " + sign + ")", ARGUMENT, x -> x.change(0, 1, sign));
            Twins.refuses("ab/cd", "change(1, 0, " + sign + ")", ARGUMENT, x -> x.change(1, 0, sign));
        }
    }

    private static void turned(String rows, int row, int from, int to, String due, int others) {
        AnchorChains x = Due.rows(rows);
        String call = "turn(" + row + ", " + from + ", " + to + ") of " + rows;
        Due.same(call, x.turn(row, from, to), others);
        Due.same("rows after " + call, Due.text(x), due);
    }

    private static void turn() {
        Due.says(5, "Turns signs of a row around.");
        turned("abcd/aabb", 0, 0, 3, "dcba/aabb", 4);
        turned("abcd/aabb", 0, 1, 3, "adcb/aabb", 2);
        turned("abcd/aabb", 0, 1, 2, "acbd/aabb", 2);
        turned("abcd/aabb", 1, 0, 3, "abcd/bbaa", 4);
        turned(FULL + "/", 0, 0, 23, TermSentences.back(FULL) + "/", 24);

        Due.says(5, "Undoable.");
        Twins.undoable("abc/d", "ab/!", "turn(0, 0, 2)", x -> x.turn(0, 0, 2));
        Twins.undoable("abc/d", "", "turn(1, 0, 0), of one sign", x -> x.turn(1, 0, 0));
        Twins.undoable("abba/d", "", "turn(0, 0, 3), to the same", x -> x.turn(0, 0, 3));

        Due.says(5, "row: 0 or 1");
        turned("ab/cd", 0, 0, 1, "ba/cd", 2);
        turned("ab/cd", 1, 0, 1, "ab/dc", 2);

        Due.says(5, "from: the first place");
        turned("abcd/", 0, 0, 2, "cbad/", 2);
        turned("abcd/", 0, 3, 3, "abcd/", 0);

        Due.says(5, "to: the last place, at least from");
        turned("abcd/", 0, 2, 3, "abdc/", 2);
        turned("abcd/", 0, 2, 2, "abcd/", 0);
        turned("abcd/", 0, 0, 0, "abcd/", 0);

        Due.says(5, "Returns how many places have another sign then.");
        turned("abcba/", 0, 0, 4, "abcba/", 0);
        turned("aaaa/", 0, 0, 3, "aaaa/", 0);
        turned("abca/", 0, 0, 3, "acba/", 2);
        turned("abcab/", 0, 0, 4, "bacba/", 4);
        turned("abc/", 0, 0, 2, "cba/", 2);
    }

    private static void turnFails() {
        Due.says(5, "Throws IndexOutOfBoundsException if there is no such row or place");
        for (int row : NO_ROWS) {
            Twins.refuses("ab/cd", "turn(" + row + ", 0, 0)", RANGE, x -> x.turn(row, 0, 0));
        }
        for (int place : new int[] {-1, 2, 3, 24, LEAST, MOST}) {
            Twins.refuses("ab/cd", "turn(0, " + place + ", 1)", RANGE, x -> x.turn(0, place, 1));
            Twins.refuses("ab/cd", "turn(0, 0, " + place + ")", RANGE, x -> x.turn(0, 0, place));
            Twins.refuses("ab/cd", "turn(1, 1, " + place + ")", RANGE, x -> x.turn(1, 1, place));
            Twins.refuses("ab/cd", "turn(1, " + place + ", " + place + ")", RANGE, x -> x.turn(1, place, place));
        }
        Twins.refuses("ab/", "turn in an empty row", RANGE, x -> x.turn(1, 0, 0));
        Twins.refuses(FULL + "/", "turn(0, 0, 24)", RANGE, x -> x.turn(0, 0, 24));

        Due.says(5, "Throws IllegalArgumentException if to is less than from");
        Twins.refuses("ab/cd", "turn(0, 1, 0)", ARGUMENT, x -> x.turn(0, 1, 0));
        Twins.refuses("ab/cd", "turn(1, 1, 0)", ARGUMENT, x -> x.turn(1, 1, 0));
        Twins.refuses(FULL + "/", "turn(0, 23, 0)", ARGUMENT, x -> x.turn(0, 23, 0));
        Twins.refuses(FULL + "/", "turn(0, 23, 22)", ARGUMENT, x -> x.turn(0, 23, 22));
    }

    private static void copied(String rows, int row, int from, int to, int goal, String due) {
        AnchorChains x = Due.rows(rows);
        String call = "copy(" + row + ", " + from + ", " + to + ", " + goal + ") of " + rows;
        int slash = due.indexOf('/');
        Due.same(call, x.copy(row, from, to, goal), goal == 0 ? slash : due.length() - slash - 1);
        Due.same("rows after " + call, Due.text(x), due);
    }

    private static void copy() {
        Due.says(6, "Copies signs of a row behind all signs of a row (perhaps the same one).");
        copied("abcd/dd", 0, 1, 2, 1, "abcd/ddbc");
        copied("abcd/dd", 0, 1, 2, 0, "abcdbc/dd");
        copied("abcd/dd", 1, 0, 1, 0, "abcddd/dd");
        copied("abcd/cd", 1, 0, 1, 1, "abcd/cdcd");
        copied("abcd/", 0, 0, 3, 0, "abcdabcd/");
        copied("abcd/", 0, 0, 3, 1, "abcd/abcd");
        copied(FULL + "/", 0, 0, 23, 1, FULL + "/" + FULL);

        Due.says(6, "Undoable.");
        Twins.undoable("abc/d", "ab/!", "copy(0, 0, 2, 1)", x -> x.copy(0, 0, 2, 1));
        Twins.undoable("abc/", "", "copy(0, 0, 2, 0)", x -> x.copy(0, 0, 2, 0));
        Twins.undoable(ALMOST_FULL + "/d", "", "copy(1, 0, 0, 0)", x -> x.copy(1, 0, 0, 0));

        Due.says(6, "Returns how many signs that row has then.");
        Due.same("copy(0, 0, 0, 1)", Due.rows("abc/d").copy(0, 0, 0, 1), 2);
        Due.same("copy(0, 0, 0, 0)", Due.rows("abc/d").copy(0, 0, 0, 0), 4);
        Due.same("copy up to 24", Due.rows("abcdabcdabcd/d").copy(0, 0, 11, 0), 24);
    }

    private static void copyWhere() {
        Due.says(6, "row: the row that they come from, 0 or 1");
        copied("a/b", 0, 0, 0, 0, "aa/b");
        copied("a/b", 1, 0, 0, 0, "ab/b");

        Due.says(6, "from: the first place");
        copied("abcd/", 0, 0, 2, 1, "abcd/abc");
        copied("abcd/", 0, 3, 3, 1, "abcd/d");

        Due.says(6, "to: the last place, at least from");
        copied("abcd/", 0, 2, 3, 1, "abcd/cd");
        copied("abcd/", 0, 2, 2, 1, "abcd/c");
        copied("abcd/", 0, 0, 0, 1, "abcd/a");

        Due.says(6, "goal: the row behind which they come, 0 or 1");
        copied("ab/c", 0, 0, 1, 0, "abab/c");
        copied("ab/c", 0, 0, 1, 1, "ab/cab");
    }

    private static void copyFails() {
        Due.says(6, "Throws IndexOutOfBoundsException if there is no such row or place");
        for (int row : NO_ROWS) {
            Twins.refuses("ab/cd", "copy(" + row + ", 0, 0, 0)", RANGE, x -> x.copy(row, 0, 0, 0));
            Twins.refuses("ab/cd", "copy(0, 0, 0, " + row + ")", RANGE, x -> x.copy(0, 0, 0, row));
        }
        for (int place : new int[] {-1, 2, 3, 24, LEAST, MOST}) {
            Twins.refuses("ab/cd", "copy(0, " + place + ", 1, 1)", RANGE, x -> x.copy(0, place, 1, 1));
            Twins.refuses("ab/cd", "copy(1, 0, " + place + ", 0)", RANGE, x -> x.copy(1, 0, place, 0));
        }
        Twins.refuses("ab/", "copy from an empty row", RANGE, x -> x.copy(1, 0, 0, 0));
        Twins.refuses("ab/abc", "copy from a place of the other row alone", RANGE, x -> x.copy(0, 0, 2, 1));

        Due.says(6, "Throws IllegalArgumentException if to is less than from");
        Twins.refuses("ab/cd", "copy(0, 1, 0, 0)", ARGUMENT, x -> x.copy(0, 1, 0, 0));
        Twins.refuses("ab/cd", "copy(1, 1, 0, 0)", ARGUMENT, x -> x.copy(1, 1, 0, 0));
        Twins.refuses(FULL + "/", "copy(0, 23, 22, 1)", ARGUMENT, x -> x.copy(0, 23, 22, 1));

        Due.says(6, "Throws IllegalStateException if it would have more than 24 signs");
        for (int many = 1; many <= 24; many++) {
            String goal = FULL.substring(0, 24 - many);
            int last = many - 1;
            Due.same("copy " + many + " up to 24", Due.rows(FULL + "/" + goal).copy(0, 0, last, 1), 24);
            Twins.refuses(FULL + "/" + goal + "a", "copy " + many + " up to 25", STATE, x -> x.copy(0, 0, last, 1));
        }
        Twins.refuses("abcdabcdabcda/", "copy 13 behind themselves", STATE, x -> x.copy(0, 0, 12, 0));
        Twins.refuses("a/" + FULL, "copy 24 up", STATE, x -> x.copy(1, 0, 23, 0));
    }

    private static void exchange() {
        Due.says(7, "Exchanges both rows.");
        String[][] rows = {{"", ""}, {"a", ""}, {"", "dc"}, {"abc", "ddd"}, {FULL, "a"},
            {FULL, TermSentences.back(FULL)}};
        for (String[] row : rows) {
            AnchorChains x = Due.rows(row[0] + "/" + row[1]);
            x.exchange();
            Due.same("exchange() of " + row[0] + "/" + row[1], Due.text(x), row[1] + "/" + row[0]);
            x.exchange();
            Due.same("exchange() again", Due.text(x), row[0] + "/" + row[1]);
        }

        Due.says(7, "Undoable.");
        Twins.undoable("abc/d", "ab/!", "exchange()", AnchorChains::exchange);
        Twins.undoable("abc/abc", "", "exchange() of like rows", AnchorChains::exchange);
        Twins.undoable("/", "", "exchange() of empty rows", AnchorChains::exchange);

        Due.says(7, "Returns how many anchors there are then.");
        Due.same("exchange() of empty rows", new AnchorChains().exchange(), 0);
        Due.same("exchange() of one word", Due.rows("abc/dabc").exchange(), 1);
        Due.same("exchange() of two words", Due.rows("abcd/abcd").exchange(), 2);
        Due.same("exchange() of rows without a word", Due.rows("ab/ab").exchange(), 0);
        Due.same("exchange() of two signs and 24", Due.rows("ab/" + FULL).exchange(), 0);
        AnchorChains y = new AnchorChains();
        for (int place = 0; place < 3; place++) {
            y.put(0, place, place);
            y.put(1, place, place);
        }
        Due.same("exchange() right after put", y.exchange(), 1);
        y.set(0, 2);
        Due.same("exchange() right after set", y.exchange(), 2);
        y.take(1, 0, 2);
        Due.same("exchange() right after take", y.exchange(), 0);
        y.undo();
        y.undo();
        Due.same("exchange() right after undo", y.exchange(), 2);
    }

    private static void set() {
        int[] low = {2, 0, 0, 0};
        int[] high = {5, 9, 9, 24};
        Due.says(8, "Changes a setting.");
        AnchorChains x = Due.rows("abcd/cdab");
        Due.same("anchors with words of three", x.count(2), 0);
        x.set(0, 2);
        Due.same("anchors with words of two", x.count(2), 2);
        x.set(2, 0);
        Due.same("the cost, if a sign is left out for nothing", x.count(6), 0);

        Due.says(8, "Undoable.");
        for (int i = 0; i < 4; i++) {
            int setting = i;
            Twins.undoable("abc/d", "ab/!", "set to the least", y -> y.set(setting, low[setting]));
            Twins.undoable("abc/d", "", "set to the greatest", y -> y.set(setting, high[setting]));
            Twins.undoable("abc/d", "", "set to the same", y -> y.set(setting, y.setting(setting)));
        }

        Due.says(8, "setting: 0 to 3");
        for (int setting = 0; setting < 4; setting++) {
            AnchorChains y = new AnchorChains();
            y.set(setting, 5);
            for (int other = 0; other < 4; other++) {
                int first = other == 0 ? 3 : other + 1;
                Due.same("setting(" + other + ") after set(" + setting + ", 5)", y.setting(other),
                        other == setting ? 5 : first);
            }
        }

        Due.says(8, "value: the new value");
        for (int setting = 0; setting < 4; setting++) {
            for (int value = low[setting]; value <= high[setting]; value++) {
                AnchorChains y = new AnchorChains();
                y.set(setting, value);
                Due.same("setting(" + setting + ")", y.setting(setting), value);
            }
        }
    }

    private static void setFails() {
        int[] low = {2, 0, 0, 0};
        int[] high = {5, 9, 9, 24};
        Due.says(8, "Returns the previous value.");
        for (int setting = 0; setting < 4; setting++) {
            AnchorChains x = new AnchorChains();
            int first = x.setting(setting);
            Due.same("set(" + setting + ", the greatest)", x.set(setting, high[setting]), first);
            Due.same("set(" + setting + ", the least)", x.set(setting, low[setting]), high[setting]);
            Due.same("set(" + setting + ", the least) again", x.set(setting, low[setting]), low[setting]);
        }

        Due.says(8, "Throws IndexOutOfBoundsException if there is no such setting");
        for (int setting : new int[] {-1, 4, 5, LEAST, MOST}) {
            Twins.refuses("abc/abd", "set(" + setting + ", 3)", RANGE, x -> x.set(setting, 3));
        }

        Due.says(8, "Throws IllegalArgumentException if value is out of range");
        for (int i = 0; i < 4; i++) {
            int setting = i;
            for (int value : new int[] {low[i] - 1, high[i] + 1, LEAST, MOST}) {
                Twins.refuses("abc/abd", "set(" + i + ", " + value + ")", ARGUMENT, x -> x.set(setting, value));
            }
        }
        Twins.refuses("abc/abd", "set(0, 0)", ARGUMENT, x -> x.set(0, 0));
    }
}
