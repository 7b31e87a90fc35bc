/** The sentences under "Input text", and of the promises 9 to 12: the buffer, its errors, and reading it. */
final class TextSentences {
    private static final Class<IllegalArgumentException> ARGUMENT = IllegalArgumentException.class;
    private static final Class<IllegalStateException> STATE = IllegalStateException.class;
    private static final int LEAST = Integer.MIN_VALUE;
    private static final int MOST = Integer.MAX_VALUE;
    private static final int[] NO_CODES = {32, 127, 0, 10, 31, 128, 255, 256 + 'a', 65536 + 'a', -1, -'a', LEAST, MOST};
    private static final String FULL = "abcdabcdabcdabcdabcdabcd";
    /** As many characters as the buffer has, each of which is looked at. */
    private static final String SIXTY = FULL + "/" + FULL + "abcdabcdabc";

    private TextSentences() {
    }

    static void all() {
        mostCharacters();
        signsOfRows();
        letters();
        numbers();
        slash();
        errors();
        errorsOfLongRows();
        append();
        appendFails();
        clearBuffer();
        firstError();
        read();
        readAnswers();
        readFails();
    }

    private static AnchorChains typed(String text) {
        AnchorChains x = new AnchorChains();
        Due.type(x, text);
        return x;
    }

    private static void error(String text, int due) {
        Due.same("firstError() of " + text, typed(text).firstError(), due);
    }

    private static void fine(String text) {
        error(text, text.length());
    }

    private static void taken(String text, String due) {
        AnchorChains x = typed(text);
        x.read();
        Due.same("rows read from " + text, Due.text(x), due);
    }

    private static void mostCharacters() {
        Due.says(0, "The buffer has at most 60 characters.");
        AnchorChains x = new AnchorChains();
        for (int i = 0; i < 60; i++) {
            Due.same("character " + i, x.append(33 + i), i + 1);
        }
        Due.fails("a 61st character", STATE, () -> x.append('a'));
        Due.same("what it has", x.clearBuffer(), 60);
        Due.same("what it has at first", new AnchorChains().clearBuffer(), 0);
    }

    private static void signsOfRows() {
        Due.says(0, "A pair of rows as a text is the signs of the upper row, 0 to 24 of them, a \"/\", and those of "
                + "the lower row, likewise; signs are letters \"a\" to \"d\", and a letter may have a number behind "
                + "it, 2 to 9, which tells how often it stands there.");
        taken("/", "/");
        taken("a/", "a/");
        taken("/a", "/a");
        taken(FULL + "/", FULL + "/");
        taken("/" + FULL, "/" + FULL);
        taken(FULL + "/" + FULL, FULL + "/" + FULL);
        taken("a9b9c6/d9a9b6", "a".repeat(9) + "b".repeat(9) + "cccccc/" + "d".repeat(9) + "a".repeat(9) + "bbbbbb");
        error(FULL + "a", 24);
        error("/" + FULL + "a", 25);
        error("a9b9c7", 5);
        error("/a9b9c7", 6);
        error(FULL + "2", 24);
        error("/" + FULL + "2", 25);
    }

    private static void letters() {
        for (int code = 33; code <= 126; code++) {
            String first = String.valueOf((char) code);
            boolean letter = code >= 'a' && code <= 'd';
            error(first, letter || code == '/' ? 1 : 0);
            error("/" + first, letter ? 2 : 1);
        }
    }

    private static void numbers() {
        for (int code = 33; code <= 126; code++) {
            String behind = String.valueOf((char) code);
            boolean number = code >= '2' && code <= '9';
            boolean letter = code >= 'a' && code <= 'd';
            error("a" + behind, number || letter || code == '/' ? 2 : 1);
            error("a2" + behind, letter || code == '/' ? 3 : 2);
            error("/d" + behind, number || letter ? 3 : 2);
        }
        for (int times = 2; times <= 9; times++) {
            taken("b" + times + "/c" + times, "b".repeat(times) + "/" + "c".repeat(times));
            taken("ab" + times + "c/", "a" + "b".repeat(times) + "c/");
        }
        taken("a2a2/b2b", "aaaa/bbb");
    }

    private static void slash() {
        error("//", 1);
        error("a//", 2);
        error("a/b/", 3);
        error("a/b/c", 3);
        error("a2/b2/", 5);
        fine("a");
        fine("/");
        Due.fails("read() without a slash", ARGUMENT, () -> typed("ab").read());
    }

    private static void errors() {
        Due.says(0, "The buffer is read from left to right; a character is a syntax error if no pair of rows begins "
                + "with the characters before it and this character.");
        fine("");
        fine("abcd/dcba");
        fine("a2b3/c4d5");
        error("e/f", 0);
        error("ae/f", 1);
        error("a/f!", 2);
        error("2/", 0);
        error("/2", 1);
        error("a/2", 2);
        error("a22", 2);
        error("a1", 1);
        error("a0", 1);
        error("a10", 1);
        error("A/", 0);
    }

    private static void errorsOfLongRows() {
        fine(FULL);
        fine(FULL + "/" + FULL);
        error(FULL + "/" + FULL + "/", 49);
        error(FULL + "/" + FULL + "a", 49);
        for (int times = 2; times <= 9; times++) {
            String ahead = FULL.substring(0, 24 - times);
            fine(ahead + "a" + times);
            fine(ahead + "a" + times + "/" + ahead + "a" + times);
            error(ahead + "ba" + times, 26 - times);
            error(ahead + "a" + times + "a", 26 - times);
            error("/" + ahead + "ba" + times, 27 - times);
            error("/" + ahead + "a" + times + "b", 27 - times);
        }
        error("a9b9c9", 5);
        error("a9b9c6d", 6);
        fine("a9b9c5d/");
        error("a9b9c5d2", 7);
    }

    private static void append() {
        Due.says(9, "Appends a character to the buffer.");
        AnchorChains x = typed("ab");
        Due.same("ab is no fault", x.firstError(), 2);
        x.append('!');
        Due.same("the third one is", x.firstError(), 2);
        Due.same("there are three", x.clearBuffer(), 3);
        Due.same("append('c') and append('d') in their order", typed("cd").digest() == typed("dc").digest() ? 1 : 0, 0);
        Twins.notUndoable("abc/d", "", "append('a')", y -> y.append('a'));

        Due.says(9, "code: the character code, 33 to 126");
        for (int code = 33; code <= 126; code++) {
            Due.same("append(" + code + ")", new AnchorChains().append(code), 1);
        }

        Due.says(9, "Returns the new length of the buffer.");
        AnchorChains y = new AnchorChains();
        for (int length = 1; length <= 60; length++) {
            Due.same("append('b')", y.append('b'), length);
        }
        y.clearBuffer();
        Due.same("append('b') to the cleared buffer", y.append('b'), 1);
    }

    private static void appendFails() {
        Due.says(9, "Throws IllegalArgumentException if code is not 33 to 126");
        for (int code : NO_CODES) {
            Twins.refuses("ab/cd", "", "append(" + code + ")", ARGUMENT, x -> x.append(code));
            Twins.refuses("ab/cd", "ab/", "append(" + code + ")", ARGUMENT, x -> x.append(code));
        }

        Due.says(9, "Throws IllegalStateException if the buffer has 60 characters");
        Twins.refuses("ab/cd", SIXTY, "append('a')", STATE, x -> x.append('a'));
        Twins.refuses("ab/cd", SIXTY, "append(33)", STATE, x -> x.append(33));
        Twins.refuses("ab/cd", SIXTY, "append(126)", STATE, x -> x.append(126));
        Due.same("append the 60th", typed(SIXTY.substring(1)).append('a'), 60);
    }

    private static void clearBuffer() {
        Due.says(10, "Clears the buffer.");
        for (String text : new String[] {"", "a", "ab/cd", "a!", SIXTY}) {
            AnchorChains x = typed(text);
            x.clearBuffer();
            Due.same("digest() after " + text, x.digest(), new AnchorChains().digest());
            Due.same("firstError() after " + text, x.firstError(), 0);
            Due.fails("read() after " + text, ARGUMENT, x::read);
            Due.same("append('a') after " + text, x.append('a'), 1);
        }
        Twins.notUndoable("abc/d", "ab", "clearBuffer()", AnchorChains::clearBuffer);
        Twins.keepsAll("abc/d", "", "clearBuffer()", AnchorChains::clearBuffer);

        Due.says(10, "Returns the length that it had.");
        for (String text : new String[] {"", "a", "ab/cd", "a!", SIXTY}) {
            AnchorChains x = typed(text);
            Due.same("clearBuffer() of " + text, x.clearBuffer(), text.length());
            Due.same("clearBuffer() again", x.clearBuffer(), 0);
        }
    }

    private static void firstError() {
        Due.says(11, "Finds the first syntax error of the buffer.");
        error("e", 0);
        error("aee", 1);
        error("a!b!", 1);
        error("ab/cd/e", 5);
        for (String text : new String[] {"", "ab/", "ab!", SIXTY}) {
            Twins.keepsAll("abc/d", text, "firstError()", AnchorChains::firstError);
        }

        Due.says(11, "Returns the index of the first character that is a syntax error; the length of the buffer if "
                + "there is none.");
        for (int ahead = 0; ahead <= 24; ahead++) {
            fine(FULL.substring(0, ahead));
            error(FULL.substring(0, ahead) + "!", ahead);
        }
        fine(FULL + "/" + FULL);
        error(SIXTY, 49);
        error("a9b9c6/d9a9b6!", 13);
    }

    private static void read() {
        Due.says(12, "Takes the rows in the buffer, and clears the buffer.");
        String[][] texts = {{"/", "/"}, {"ab/", "ab/"}, {"/c2", "/cc"}, {"abcd/dcba", "abcd/dcba"},
            {FULL + "/" + FULL, FULL + "/" + FULL}, {"a9a9a6/b9b9b6", "a".repeat(24) + "/" + "b".repeat(24)}};
        for (String[] text : texts) {
            AnchorChains x = Due.rows("dabc/ccc");
            Due.type(x, text[0]);
            x.read();
            Due.same("rows from " + text[0], Due.text(x), text[1]);
            Due.same("the buffer after " + text[0], x.firstError(), 0);
            Due.fails("read() after " + text[0], ARGUMENT, x::read);
            Due.same("clearBuffer() after " + text[0], x.clearBuffer(), 0);
        }

        Due.says(12, "Undoable.");
        Twins.undoable("abc/d", "ab/c", "read()", AnchorChains::read);
        Twins.undoable("abc/d", "abc/d", "read() of the same rows", AnchorChains::read);
        Twins.undoable(FULL + "/d", "/", "read() of empty rows", AnchorChains::read);
        AnchorChains x = typed("ab/c");
        x.read();
        x.undo();
        Due.same("undo() does not bring back the buffer", x.clearBuffer(), 0);
    }

    private static void readAnswers() {
        Due.says(12, "Returns how many anchors there are then.");
        String[] texts = {"/", "abc/abc", "abcd/abcd", "abc/cba", "a3/a3", "a4/a3", "abcdbdc/abcdbdc"};
        int[] anchors = {0, 1, 2, 0, 1, 0, 5};
        for (int i = 0; i < texts.length; i++) {
            Due.same("read() of " + texts[i], typed(texts[i]).read(), anchors[i]);
        }
        AnchorChains x = new AnchorChains();
        x.set(0, 2);
        Due.type(x, "abc/abc");
        Due.same("read() with words of two", x.read(), 2);
    }

    private static void readFails() {
        Due.says(12, "Throws IllegalArgumentException if the buffer is not a complete pair of rows");
        String[] texts = {"", "a", "abcd", "a9", FULL, "!", "a!/", "//", "a/b/", "/2", "a1/", "a22/", "/a22",
            FULL + "a/", "a9b9c7/", "/a9b9c7", "/" + FULL + "a", FULL + "2/", SIXTY, "ab/cd!", "abcd/e"};
        for (String text : texts) {
            Twins.refuses("abc/abd", text, "read()", ARGUMENT, AnchorChains::read);
        }
    }
}
