/** The sentences under "What it is", and under "Terms" on rows, words, anchors, chains and settings. */
final class TermSentences {
    private static final Class<IndexOutOfBoundsException> RANGE = IndexOutOfBoundsException.class;
    private static final Class<IllegalArgumentException> ARGUMENT = IllegalArgumentException.class;
    private static final Class<IllegalStateException> STATE = IllegalStateException.class;
    private static final String FULL = "abcdabcdabcdabcdabcdabcd";
    /** No two or more signs of it that stand side by side do so again. */
    private static final String ONCE = "abcdacbda";

    private TermSentences() {
    }

    static void all() {
        lastCall();
        twoRows();
        fullRows();
        places();
        words();
        wordsAtTheEnd();
        readBackwards();
        anchors();
        turnedAnchors();
        order();
        fit();
        fitByLess();
        chainOfNeighbours();
        chainOfMost();
        chainOfSeveral();
        settings();
        settingsAtFirst();
    }

    static AnchorChains withWords(int length, String text) {
        AnchorChains x = Due.rows(text);
        x.set(0, length);
        return x;
    }

    static String back(String signs) {
        return new StringBuilder(signs).reverse().toString();
    }

    private static void lastCall() {
        Due.says(0, "An object is used for at most 512 calls after it has been made; what later calls answer is free.");
        AnchorChains x = new AnchorChains();
        for (int i = 0; i < 125; i++) {
            x.exchange();
            x.ifSet(0, 2);
            x.put(1, 0, i % 4);
            x.undo();
        }
        AnchorChains y = new AnchorChains();
        for (AnchorChains each : new AnchorChains[] {x, y}) {
            for (int i = 0; i < 11; i++) {
                each.put(0, i, i % 3);
            }
        }
        Due.same("digest() as the 512th call", x.digest(), y.digest());
    }

    private static void twoRows() {
        Due.says(0, "There are two rows, the upper one (0) and the lower one (1), of 0 to 24 signs each, at first "
                + "empty; signs are \"a\" to \"d\", numbered from 0.");
        AnchorChains x = new AnchorChains();
        Due.same("signs of the upper row at first", x.count(0), 0);
        Due.same("signs of the lower row at first", x.count(1), 0);
        x.put(0, 0, 1);
        x.put(1, 0, 2);
        Due.same("the upper row and the lower one", Due.text(x), "b/c");
        Due.fails("a row ahead of the upper one", RANGE, () -> x.put(-1, 0, 0));
        Due.fails("a row behind the lower one", RANGE, () -> x.put(2, 0, 0));
        AnchorChains y = Due.rows("abcd/dcba");
        for (int sign = 0; sign < 4; sign++) {
            Due.same("the number of a letter", y.sign(0, sign), sign);
            Due.same("the number of a letter below", y.sign(1, sign), 3 - sign);
        }
        Due.fails("a sign ahead of a", ARGUMENT, () -> y.put(0, 0, -1));
        Due.fails("a sign behind d", ARGUMENT, () -> y.put(0, 0, 4));
    }

    private static void fullRows() {
        AnchorChains x = Due.rows(FULL + "/" + back(FULL));
        Due.same("the most signs of the upper row", x.count(0), 24);
        Due.same("the most signs of the lower row", x.count(1), 24);
        Due.same("the last sign of a full upper row", x.sign(0, 23), 3);
        Due.same("the last sign of a full lower row", x.sign(1, 23), 0);
        Due.fails("a 25th sign above", STATE, () -> x.put(0, 24, 0));
        Due.fails("a 25th sign below", STATE, () -> x.put(1, 24, 0));
        x.take(0, 0, 24);
        Due.same("no signs above beside 24 below", Due.text(x), "/" + back(FULL));
        x.take(1, 0, 24);
        Due.same("no signs again", Due.text(x), "/");
    }

    private static void places() {
        Due.says(0, "Places are numbered from 0.");
        AnchorChains x = Due.rows("dab/cab");
        Due.same("the first sign above", x.sign(0, 0), 3);
        Due.same("the first sign below", x.sign(1, 0), 2);
        Due.same("the last sign above", x.sign(0, 2), 1);
        Due.fails("a place ahead of the first one", RANGE, () -> x.sign(0, -1));
        Due.fails("a place behind the last one", RANGE, () -> x.sign(0, 3));
    }

    private static void words() {
        Due.says(0, "A word is setting 0 signs that stand side by side in a row; its place is that of its first sign.");
        for (int length = 2; length <= 5; length++) {
            String word = ONCE.substring(0, length);
            AnchorChains x = withWords(length, word + "/" + word);
            Due.same("anchors of rows of one word of " + length, x.count(2), 1);
            Due.same("its place above", x.anchor(0, 0), 0);
            Due.same("its place below", x.anchor(0, 1), 0);
            String less = ONCE.substring(0, length - 1);
            Due.same("anchors if a sign lacks above", withWords(length, less + "/" + word).count(2), 0);
            Due.same("anchors if a sign lacks below", withWords(length, word + "/" + less).count(2), 0);
            Due.same("anchors if a sign lacks in both", withWords(length, less + "/" + less).count(2), 0);
            Due.same("anchors without signs", withWords(length, "/").count(2), 0);
            Due.same("turned anchors if a sign lacks", withWords(length, less + "/" + back(less)).count(3), 0);
        }
        AnchorChains y = withWords(3, "abdc/abcc");
        Due.same("anchors of words that another sign parts", y.count(2), 0);
    }

    private static void wordsAtTheEnd() {
        for (int length = 2; length <= 5; length++) {
            String word = "bcdbd".substring(0, length);
            String rest = "a".repeat(24 - length);
            AnchorChains x = withWords(length, rest + word + "/" + word + rest);
            int last = x.count(2) - 1;
            Due.same("the last place of a word of " + length + " above", x.anchor(last, 0), 24 - length);
            Due.same("its first place below", x.anchor(last, 1), 0);
            x.exchange();
            Due.same("its first place above", x.anchor(0, 0), 0);
            Due.same("its last place below", x.anchor(0, 1), 24 - length);
        }
    }

    private static void readBackwards() {
        Due.says(0, "Read backwards a word is the same signs in the other order.");
        for (int length = 2; length <= 5; length++) {
            String word = ONCE.substring(0, length);
            AnchorChains x = withWords(length, "d" + word + "/" + back(word));
            Due.same("turned anchors of a word of " + length, x.count(3), 1);
            Due.same("its place above", x.turned(0, 0), 1);
            Due.same("its place below", x.turned(0, 1), 0);
            Due.same("turned anchors of the word as it is", withWords(length, word + "/" + word).count(3), 0);
        }
        Due.same("turned anchors of signs in a third order", withWords(3, "abc/bac").count(3), 0);
        Due.same("turned anchors of signs shifted around", withWords(4, "abcd/bcda").count(3), 0);
    }

    private static void anchors() {
        Due.says(0, "An anchor is a word that occurs just once in the upper row and just once in the lower row; "
                + "it has an upper place p and a lower place q.");
        Due.same("once in both", withWords(2, "ab/ab").count(2), 1);
        Due.same("once above, never below", withWords(2, "ab/ac").count(2), 0);
        Due.same("never above, once below", withWords(2, "ac/ab").count(2), 0);
        Due.same("twice above", withWords(2, "abdab/ab").count(2), 0);
        Due.same("twice below", withWords(2, "ab/abdab").count(2), 0);
        Due.same("twice in both", withWords(2, "abdab/abcab").count(2), 0);
        Due.same("three times above", withWords(2, "ababab/cab").count(2), 0);
        Due.same("twice above, one over the other", withWords(3, "ababa/aba").count(2), 0);
        Due.same("twice below, one over the other", withWords(3, "aba/ababa").count(2), 0);
        Due.same("like signs once", withWords(2, "aa/aa").count(2), 1);
        Due.same("like signs twice above", withWords(2, "aaa/aa").count(2), 0);
        Due.same("like signs twice below", withWords(2, "aa/aaa").count(2), 0);
        Due.same("backwards in the other row, too", withWords(2, "ab/aba").count(2), 1);
        AnchorChains x = withWords(2, "ccab/abdd");
        Due.same("the upper place", x.anchor(0, 0), 2);
        Due.same("the lower place", x.anchor(0, 1), 0);
    }

    private static void turnedAnchors() {
        Due.says(0, "A turned anchor is a word that is not the same read backwards, and occurs just once in the upper "
                + "row (p), while the word that it is read backwards occurs just once in the lower row (q).");
        Due.same("once in both", withWords(2, "ab/ba").count(3), 1);
        Due.same("the same read backwards, of two", withWords(2, "aa/aa").count(3), 0);
        Due.same("the same read backwards, of three", withWords(3, "aba/aba").count(3), 0);
        Due.same("the same read backwards, of four", withWords(4, "abba/abba").count(3), 0);
        Due.same("the same read backwards, of five", withWords(5, "abcba/abcba").count(3), 0);
        Due.same("all but the same read backwards, of five", withWords(5, "abcbd/dbcba").count(3), 1);
        Due.same("the outer signs alike, of four", withWords(4, "abca/acba").count(3), 1);
        Due.same("once above, never below", withWords(2, "ab/ab").count(3), 0);
        Due.same("twice above", withWords(2, "abdab/ba").count(3), 0);
        Due.same("twice below", withWords(2, "ab/badba").count(3), 0);
        Due.same("twice above, one over the other", withWords(4, "bababa/abab").count(3), 0);
        Due.same("twice below, one over the other", withWords(4, "baba/ababab").count(3), 0);
        Due.same("the word itself twice below", withWords(2, "ab/abdab").count(3), 0);
        Due.same("the word itself twice below, read backwards once", withWords(2, "ab/abdabcba").count(3), 1);
        Due.same("read backwards twice above", withWords(2, "abdbacba/cba").count(3), 1);
        AnchorChains x = withWords(2, "ccab/badd");
        Due.same("the upper place", x.turned(0, 0), 2);
        Due.same("the lower place", x.turned(0, 1), 0);
    }

    private static void order() {
        Due.says(0, "Anchors are numbered from 0 by ascending upper places, turned anchors by themselves likewise.");
        AnchorChains x = withWords(2, "aabbcc/ccdaabb");
        int[] upper = {0, 1, 2, 4};
        int[] lower = {3, 4, 5, 0};
        for (int anchor = 0; anchor < 4; anchor++) {
            Due.same("the upper place of an anchor", x.anchor(anchor, 0), upper[anchor]);
            Due.same("the lower place of an anchor", x.anchor(anchor, 1), lower[anchor]);
        }
        Due.same("anchors", x.count(2), 4);
        AnchorChains y = withWords(2, "abcda/cbdadc");
        int[] turnedUpper = {1, 2, 3};
        int[] turnedLower = {0, 4, 3};
        for (int anchor = 0; anchor < 3; anchor++) {
            Due.same("the upper place of a turned anchor", y.turned(anchor, 0), turnedUpper[anchor]);
            Due.same("the lower place of a turned anchor", y.turned(anchor, 1), turnedLower[anchor]);
        }
        Due.same("turned anchors", y.count(3), 3);
        Due.same("the anchor beside them has the number 0 itself", y.anchor(0, 0), 3);
    }

    private static void chain(String told, AnchorChains x, int anchors, int... members) {
        Due.same(told + ": anchors", x.count(2), anchors);
        Due.same(told + ": anchors of the chain", x.count(4), members.length);
        int next = 0;
        for (int anchor = 0; anchor < anchors; anchor++) {
            boolean isMember = next < members.length && members[next] == anchor;
            Due.same(told + ": place of anchor " + anchor + " in the chain", x.anchor(anchor, 2), isMember ? next : -1);
            next += isMember ? 1 : 0;
        }
    }

    private static void fit() {
        Due.says(0, "Two anchors fit, in this order, if both the upper and the lower place of the second one are "
                + "greater than those of the first one, and, if one of these two differences is below setting 0, both "
                + "differences are the same.");
        chain("the lower place is less", withWords(2, "aabb/bbcaa"), 2, 0);
        for (int length = 2; length <= 5; length++) {
            String signs = ONCE.substring(0, 2 * length - 1);
            String first = signs.substring(0, length);
            String second = signs.substring(length - 1);
            String told = "words of " + length;
            chain(told + ", one less than a word above, a word below",
                    withWords(length, signs + "/" + first + second), 2, 0);
            chain(told + ", a word above, one less below", withWords(length, first + second + "/" + signs), 2, 0);
            AnchorChains x = withWords(length, signs + "/" + signs);
            Due.same(told + ", one less than a word in both: chain", x.count(4), length);
            Due.same(told + ", one less than a word in both: the last one", x.anchor(length - 1, 2), length - 1);
            Due.same(told + ", one less than a word in both: its upper place", x.anchor(length - 1, 0), length - 1);
        }
    }

    /** From a word on both differences may be others. */
    private static void fitByLess() {
        chain("a word above, one more below", withWords(2, "aabb/aacbb"), 2, 0, 1);
        chain("one more than a word above, a word below", withWords(2, "aacbb/aabb"), 2, 0, 1);
        chain("a word above, many more below", withWords(2, "aabb/aa" + "c".repeat(20) + "bb"), 2, 0, 1);
        chain("three above, four below, of words of three", withWords(3, "abcdda/abcbdda"), 2, 0, 1);
        chain("two above, three below, of words of three", withWords(3, "abcda/abccda"), 2, 0);
        chain("three above, two below, of words of three", withWords(3, "abccda/abcda"), 2, 0);
        chain("one above, three below, of words of two", withWords(2, "abc/abdbc"), 2, 0);
    }

    private static void chainOfNeighbours() {
        Due.says(0, "A chain is a row of anchors of which each one and the next one fit.");
        chain("no anchor", withWords(3, "abc/abd"), 0);
        chain("one anchor", withWords(3, "abc/abc"), 1, 0);
        chain("the first one and the second one do not fit", withWords(2, "aabbcc/bbaacc"), 3, 0, 2);
        chain("all fit", withWords(2, "aabbcc/aabbcc"), 5, 0, 1, 2, 3, 4);
        chain("two that overlap otherwise", withWords(3, "abcda/abccda"), 2, 0);
        chain("the third one fits the first one, the second one overlaps it", withWords(2, "abcdd/abddbc"), 3, 0, 2);
        chain("the same behind two more", withWords(2, "ccabcdd/ccabddbc"), 5, 0, 1, 2, 4);
        AnchorChains x = withWords(2, "aabbcc/ccbbaa");
        chain("no two fit", x, 3, 0);
        for (int anchor = 0; anchor < 3; anchor++) {
            Due.same("the most that end with it", x.anchor(anchor, 3), 1);
        }
    }

    private static void chainOfMost() {
        Due.says(0, "The chain of the rows is the one with the most anchors; of several the one with the lowest number "
                + "of its first anchor, of these with the lowest number of the second one, and so on.");
        chain("the longer one, though it begins later", withWords(2, "aabbcc/bbccaa"), 4, 1, 2, 3);
        chain("the longer one, though it ends earlier", withWords(2, "aabbcc/ccaabb"), 4, 0, 1, 2);
        chain("two of one, the first one", withWords(2, "aabb/bbaa"), 2, 0);
    }

    private static void chainOfSeveral() {
        chain("the first ones differ", withWords(2, "aabbccdd/bbdaaddcc"), 4, 0, 2);
        chain("the second ones differ", withWords(2, "aabbcc/aaccbb"), 3, 0, 1);
        chain("the third ones differ", withWords(2, "aabbccdd/aacbbddcc"), 4, 0, 1, 2);
        chain("the last ones differ, with one behind them", withWords(2, "aabbccad/aaccbbad"), 4, 0, 1, 3);
        chain("one of several, with others crossing", withWords(2, "aabbccdd/ccddaabb"), 6, 0, 1, 2);
    }

    private static void settings() {
        Due.says(0, "0: the length of words, 2 to 5, at first 3; 1: the cost of unlike signs, 0 to 9, at first 2; "
                + "2: the cost of a sign that is left out, 0 to 9, at first 3; 3: the band, 0 to 24, at first 4.");
        int[] low = {2, 0, 0, 0};
        int[] high = {5, 9, 9, 24};
        for (int i = 0; i < 4; i++) {
            int setting = i;
            for (int value = low[i]; value <= high[i]; value++) {
                AnchorChains x = new AnchorChains();
                x.set(i, value);
                Due.same("setting " + i + " as " + value, x.setting(i), value);
            }
            AnchorChains x = new AnchorChains();
            Due.fails("setting " + i + " too small", ARGUMENT, () -> x.set(setting, low[setting] - 1));
            Due.fails("setting " + i + " too large", ARGUMENT, () -> x.set(setting, high[setting] + 1));
            Due.fails("what would be with setting " + i + " too small", ARGUMENT,
                    () -> x.ifSet(setting, low[setting] - 1));
            Due.fails("what would be with setting " + i + " too large", ARGUMENT,
                    () -> x.ifSet(setting, high[setting] + 1));
        }
    }

    /** The least sum is that of leaving out all shifted signs; it needs a band as wide as they are many. */
    private static int shiftCost(String shifted) {
        String like = "a".repeat(12);
        AnchorChains x = Due.rows(shifted + like + "/" + like + shifted);
        x.set(1, 9);
        x.set(2, 1);
        return x.count(6);
    }

    private static void settingsAtFirst() {
        int[] first = {3, 2, 3, 4};
        AnchorChains x = new AnchorChains();
        for (int i = 0; i < 4; i++) {
            Due.same("setting " + i + " at first", x.setting(i), first[i]);
        }
        Due.fails("a setting ahead of 0", RANGE, () -> x.setting(-1));
        Due.fails("a setting behind 3", RANGE, () -> x.setting(4));
        Due.same("words of three at first", Due.rows("abc/abc").count(2), 1);
        Due.same("unlike signs for 2 at first", Due.rows("a/b").count(6), 2);
        Due.same("a sign left out for 3 at first", Due.rows("a/").count(6), 3);
        Due.same("a band of four at first, four needed", shiftCost("bbbb"), 8);
        Due.same("a band of four at first, five needed", shiftCost("bbbbb"), 12);
    }
}
