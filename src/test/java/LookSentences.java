/** The sentences of the promises 16 to 23: looks, which change nothing. */
final class LookSentences {
    private static final Class<IndexOutOfBoundsException> RANGE = IndexOutOfBoundsException.class;
    private static final Class<IllegalArgumentException> ARGUMENT = IllegalArgumentException.class;
    private static final int LEAST = Integer.MIN_VALUE;
    private static final int MOST = Integer.MAX_VALUE;
    private static final int[] NO_ROWS = {-1, 2, LEAST, MOST};
    private static final String FULL = "abcdabcdabcdabcdabcdabcd";
    /** No word of five stands in it twice. */
    private static final String FULL_OF_WORDS = "aaaaabaaacaaadaabbaabcaa";

    private LookSentences() {
    }

    static void all() {
        nothingChanged();
        sign();
        signFails();
        anchor();
        anchorWhat();
        anchorFails();
        turned();
        turnedFails();
        gap();
        gapWhat();
        gapFails();
        partner();
        partnerFails();
        doubled();
        doubledFails();
        count();
        countMore();
        countAgain();
        countFails();
        setting();
    }

    private static void nothingChanged() {
        Due.says(0, "Ahead of the calls sign, anchor, turned, gap, partner, doubled, count, setting the interface "
                + "says: ---- looks; nothing is changed.");
        String rows = "abcdb/dcbabcd";
        Twins.keepsAll(rows, "ab/!", "sign(0, 0)", x -> x.sign(0, 0));
        Twins.keepsAll(rows, "ab/!", "partner(1, 6)", x -> x.partner(1, 6));
        for (int what = 0; what < 15; what++) {
            int each = what;
            Twins.keepsAll(rows, "ab/!", "count(" + what + ")", x -> x.count(each));
            Twins.keepsAll(rows, "ab/!", "anchor(0, " + what % 4 + ")", x -> x.anchor(0, each % 4));
            Twins.keepsAll(rows, "ab/!", "turned(0, " + what % 3 + ")", x -> x.turned(0, each % 3));
            Twins.keepsAll(rows, "ab/!", "gap(9, " + what % 5 + ")", x -> x.gap(9, each % 5));
            Twins.keepsAll(rows, "ab/!", "gap(0, " + what % 5 + ")", x -> x.gap(0, each % 5));
            Twins.keepsAll(rows, "ab/!", "doubled(1, " + what % 3 + ")", x -> x.doubled(1, each % 3));
            Twins.keepsAll(rows, "ab/!", "setting(" + what % 4 + ")", x -> x.setting(each % 4));
        }
    }

    private static void sign() {
        Due.says(16, "Returns a sign.");
        AnchorChains full = Due.rows(FULL + "/" + TermSentences.back(FULL));
        for (int place = 0; place < 24; place++) {
            Due.same("sign(0, " + place + ")", full.sign(0, place), place % 4);
            Due.same("sign(1, " + place + ")", full.sign(1, place), 3 - place % 4);
        }

        Due.says(16, "row: 0 or 1");
        Due.same("sign(0, 0)", Due.rows("b/c").sign(0, 0), 1);
        Due.same("sign(1, 0)", Due.rows("b/c").sign(1, 0), 2);

        Due.says(16, "place: its place");
        Due.same("the first one", Due.rows("bcd/").sign(0, 0), 1);
        Due.same("the last one", Due.rows("bcd/").sign(0, 2), 3);
        Due.same("the only one", Due.rows("/d").sign(1, 0), 3);

        Due.says(16, "Returns the sign.");
        for (int sign = 0; sign < 4; sign++) {
            AnchorChains x = new AnchorChains();
            x.put(0, 0, sign);
            Due.same("sign(0, 0) of " + sign, x.sign(0, 0), sign);
        }
    }

    private static void signFails() {
        Due.says(16, "Throws IndexOutOfBoundsException if there is no such row or place");
        for (int row : NO_ROWS) {
            Twins.refuses("ab/cd", "sign(" + row + ", 0)", RANGE, x -> x.sign(row, 0));
        }
        for (int place : new int[] {-1, 2, 3, 24, LEAST, MOST}) {
            Twins.refuses("ab/cd", "sign(0, " + place + ")", RANGE, x -> x.sign(0, place));
            Twins.refuses("ab/cd", "sign(1, " + place + ")", RANGE, x -> x.sign(1, place));
        }
        Twins.refuses("/a", "sign(0, 0)", RANGE, x -> x.sign(0, 0));
        Twins.refuses("a/", "sign(1, 0)", RANGE, x -> x.sign(1, 0));
        Twins.refuses(FULL + "/", "sign(0, 24)", RANGE, x -> x.sign(0, 24));
        AnchorChains x = Due.rows("abc/");
        x.take(0, 2, 1);
        Due.fails("sign of one that was taken out", RANGE, () -> x.sign(0, 2));
    }

    private static void anchorIs(String told, AnchorChains x, int anchor, int... properties) {
        for (int what = 0; what < 4; what++) {
            Due.same(told + ": anchor(" + anchor + ", " + what + ")", x.anchor(anchor, what), properties[what]);
        }
    }

    private static void anchor() {
        Due.says(17, "Returns a property of an anchor.");
        anchorIs("one", Due.rows("dabc/abc"), 0, 1, 0, 0, 1);

        Due.says(17, "anchor: its number");
        AnchorChains x = TermSentences.withWords(5, FULL_OF_WORDS + "/" + FULL_OF_WORDS);
        Due.same("anchors of full rows", x.count(2), 20);
        anchorIs("the first one", x, 0, 0, 0, 0, 1);
        anchorIs("the last one", x, 19, 19, 19, 19, 20);
        Due.fails("one more", RANGE, () -> x.anchor(20, 0));
        Due.fails("one ahead of 0", RANGE, () -> x.anchor(-1, 0));
    }

    private static void anchorWhat() {
        Due.says(17, "what: 0: its upper place; 1: its lower place; 2: its place in the chain, from 0, NONE if it is "
                + "not in it; 3: the most anchors of a chain that ends with it");
        AnchorChains x = TermSentences.withWords(2, "aabbccdd/ccddaabb");
        anchorIs("first in the chain", x, 0, 0, 4, 0, 1);
        anchorIs("second in the chain", x, 1, 1, 5, 1, 2);
        anchorIs("last in the chain", x, 2, 2, 6, 2, 3);
        anchorIs("not in it, ends a chain of one", x, 3, 4, 0, -1, 1);
        anchorIs("not in it, ends a chain of three", x, 5, 6, 2, -1, 3);
        AnchorChains y = TermSentences.withWords(2, "ccaabb/aaccbb");
        anchorIs("the first one of two first ones", y, 0, 0, 2, 0, 1);
        anchorIs("the second one of two first ones", y, 1, 2, 0, -1, 1);
        anchorIs("behind both", y, 2, 4, 4, 1, 2);

        Due.says(17, "Returns the property.");
        anchorIs("far behind above", Due.rows("a".repeat(21) + "bcd/bcd" + "a".repeat(21)), 0, 21, 0, 0, 1);
        anchorIs("far behind below", Due.rows("bcd" + "a".repeat(21) + "/" + "a".repeat(21) + "bcd"), 0, 0, 21, 0, 1);
    }

    private static void anchorFails() {
        Due.says(17, "Throws IndexOutOfBoundsException if there is no such anchor");
        for (int anchor : new int[] {-1, 2, 3, 23, 24, LEAST, MOST}) {
            for (int what = 0; what < 4; what++) {
                int each = what;
                Twins.refuses("abcd/abcd", "anchor(" + anchor + ", " + what + ")", RANGE, x -> x.anchor(anchor, each));
            }
        }
        Twins.refuses("/", "anchor(0, 0) of empty rows", RANGE, x -> x.anchor(0, 0));
        Twins.refuses("abcd/dcba", "anchor(0, 0) of turned anchors alone", RANGE, x -> x.anchor(0, 0));
        Twins.refuses("ab/ab", "anchor(0, 0) of rows too short", RANGE, x -> x.anchor(0, 0));

        Due.says(17, "Throws IllegalArgumentException if what is not 0 to 3");
        for (int what : new int[] {-1, 4, 5, LEAST, MOST}) {
            Twins.refuses("abcd/abcd", "anchor(0, " + what + ")", ARGUMENT, x -> x.anchor(0, what));
            Twins.refuses("abcd/abcd", "anchor(1, " + what + ")", ARGUMENT, x -> x.anchor(1, what));
        }
    }

    private static void turnedIs(String told, AnchorChains x, int anchor, int... properties) {
        for (int what = 0; what < 3; what++) {
            Due.same(told + ": turned(" + anchor + ", " + what + ")", x.turned(anchor, what), properties[what]);
        }
    }

    private static void turned() {
        Due.says(18, "Returns a property of a turned anchor.");
        turnedIs("one", Due.rows("dabc/cba"), 0, 1, 0, 0);

        Due.says(18, "anchor: its number among the turned ones");
        AnchorChains x = TermSentences.withWords(2, "abcd/badc");
        turnedIs("the first one", x, 0, 0, 0, 0);
        turnedIs("the last one", x, 1, 2, 2, 1);
        Due.fails("one more", RANGE, () -> x.turned(2, 0));
        Due.fails("one ahead of 0", RANGE, () -> x.turned(-1, 0));
        String back = TermSentences.back(FULL_OF_WORDS);
        AnchorChains many = TermSentences.withWords(5, FULL_OF_WORDS + "/" + back);
        int[] places = {1, 2, 4, 5, 6, 8, 9, 10, 12, 13, 14, 15, 16, 17, 18, 19};
        Due.same("turned anchors of full rows", many.count(3), places.length);
        for (int anchor = 0; anchor < places.length; anchor++) {
            turnedIs("of full rows", many, anchor, places[anchor], 19 - places[anchor], 0);
        }
        AnchorChains both = TermSentences.withWords(2, "abcdc/abdc");
        Due.same("an anchor ahead of the turned one", both.anchor(0, 0), 0);
        turnedIs("it is not counted", both, 0, 2, 2, 0);

        Due.says(18, "what: 0: its upper place; 1: its lower place; 2: the number of its turned stretch");
        AnchorChains y = TermSentences.withWords(2, "abcda/dcbad");
        int[] lower = {2, 1, 0, 3};
        for (int anchor = 0; anchor < 4; anchor++) {
            turnedIs("four", y, anchor, anchor, lower[anchor], anchor == 3 ? 1 : 0);
        }

        Due.says(18, "Returns the property.");
        turnedIs("far behind", Due.rows("a".repeat(21) + "bcd/" + "a".repeat(21) + "dcb"), 0, 21, 21, 0);
    }

    private static void turnedFails() {
        Due.says(18, "Throws IndexOutOfBoundsException if there is no such turned anchor");
        for (int anchor : new int[] {-1, 2, 3, 23, 24, LEAST, MOST}) {
            for (int what = 0; what < 3; what++) {
                int each = what;
                Twins.refuses("abcd/dcba", "turned(" + anchor + ", " + what + ")", RANGE, x -> x.turned(anchor, each));
            }
        }
        Twins.refuses("/", "turned(0, 0) of empty rows", RANGE, x -> x.turned(0, 0));
        Twins.refuses("abcd/abcd", "turned(0, 0) of anchors alone", RANGE, x -> x.turned(0, 0));
        Twins.refuses("ab/ba", "turned(0, 0) of rows too short", RANGE, x -> x.turned(0, 0));

        Due.says(18, "Throws IllegalArgumentException if what is not 0 to 2");
        for (int what : new int[] {-1, 3, 4, LEAST, MOST}) {
            Twins.refuses("abcd/dcba", "turned(0, " + what + ")", ARGUMENT, x -> x.turned(0, what));
            Twins.refuses("abcd/dcba", "turned(1, " + what + ")", ARGUMENT, x -> x.turned(1, what));
        }
    }

    private static void gapIs(String told, AnchorChains x, int gap, int... properties) {
        for (int what = 0; what < 5; what++) {
            Due.same(told + ": gap(" + gap + ", " + what + ")", x.gap(gap, what), properties[what]);
        }
    }

    private static void gap() {
        Due.says(19, "Returns a property of a gap.");
        gapIs("one", Due.rows("ab/c"), 0, 0, 2, 0, 1, 5);

        Due.says(19, "gap: its number, from left to right, from 0 (the gaps ahead of the first and behind the last "
                + "word are there also if both parts are empty)");
        AnchorChains empty = Due.rows("abc/abc");
        gapIs("ahead of the first word", empty, 0, 0, 0, 0, 0, 0);
        gapIs("behind the last word", empty, 1, 3, 0, 3, 0, 0);
        AnchorChains x = TermSentences.withWords(2, "daacbbdd/aabbdda");
        Due.same("gaps", x.count(5), 3);
        gapIs("the first one", x, 0, 0, 1, 0, 0, 3);
        gapIs("the one between", x, 1, 3, 1, 2, 0, 3);
        gapIs("the last one", x, 2, 8, 0, 6, 1, 3);
        manyGaps();
    }

    private static void manyGaps() {
        AnchorChains x = TermSentences.withWords(2, "ccddaaaddbaaabbcaaaccbbd/dcdddaadddbaabcaacccbbbd");
        int[][] due = {{0, 1, 0, 1, 2}, {3, 0, 3, 1, 3}, {5, 1, 6, 0, 3}, {8, 0, 8, 1, 3}, {11, 1, 12, 0, 3},
            {14, 1, 14, 0, 3}, {17, 1, 16, 0, 3}, {20, 0, 18, 1, 3}, {22, 0, 21, 1, 3}, {24, 0, 24, 0, 0}};
        Due.same("gaps of full rows", x.count(5), 10);
        for (int gap = 0; gap < 10; gap++) {
            gapIs("ten of them", x, gap, due[gap]);
        }
        Due.same("the cost of ten gaps", x.count(6), 26);
        Due.same("no eleventh one", x.gap(10, 0), -1);
    }

    private static void gapWhat() {
        Due.says(19, "what: 0: the place of its upper part (where it would be, if it is empty); 1: the signs of that, "
                + "how many; 2: the place of its lower part; 3: the signs of that; 4: its cost");
        gapIs("ahead, empty above", Due.rows("abc/ddabc"), 0, 0, 0, 0, 2, 6);
        gapIs("ahead, empty below", Due.rows("ddabc/abc"), 0, 0, 2, 0, 0, 6);
        gapIs("behind, empty above", Due.rows("abc/dabcdd"), 1, 3, 0, 4, 2, 6);
        gapIs("behind, empty below", Due.rows("dabcdd/abc"), 1, 4, 2, 3, 0, 6);
        gapIs("between, empty above", TermSentences.withWords(2, "caabb/aadbb"), 1, 3, 0, 2, 1, 3);
        gapIs("between, empty below", TermSentences.withWords(2, "aadbb/caabb"), 1, 2, 1, 3, 0, 3);
        gapIs("ahead of a word at the end", Due.rows("d".repeat(21) + "abc/abc"), 0, 0, 21, 0, 0, 63);
        gapIs("behind a word at the end", Due.rows("d".repeat(21) + "abc/abc"), 1, 24, 0, 3, 0, 0);
        gapIs("behind a word at the beginning", Due.rows("abc/abc" + "d".repeat(21)), 1, 3, 0, 3, 21, 63);

        Due.says(19, "Returns the property; NONE if there are not so many.");
        for (String rows : new String[] {"/", "abc/abc", "abc/dabd", FULL + "/" + FULL}) {
            AnchorChains x = Due.rows(rows);
            int gaps = x.count(5);
            for (int what = 0; what < 5; what++) {
                Due.same("the last gap of " + rows + " is there", x.gap(gaps - 1, what) >= 0 ? 1 : 0, 1);
                for (int gap : new int[] {gaps, gaps + 1, 24, 25, 26, MOST / 5, MOST / 5 + 1, MOST}) {
                    Due.same("gap(" + gap + ", " + what + ") of " + rows, x.gap(gap, what), -1);
                }
            }
        }
        AnchorChains fewer = TermSentences.withWords(2, "aacbb/aadbb");
        Due.same("gaps", fewer.count(5), 3);
        fewer.set(0, 3);
        Due.same("gap(1, 0), as there are fewer", fewer.gap(1, 0), -1);
    }

    private static void gapFails() {
        Due.says(19, "Throws IllegalArgumentException if gap is below 0, or what is not 0 to 4");
        for (int gap : new int[] {-1, -2, LEAST}) {
            Twins.refuses("abc/abd", "gap(" + gap + ", 0)", ARGUMENT, x -> x.gap(gap, 0));
            Twins.refuses("abc/abd", "gap(" + gap + ", 5)", ARGUMENT, x -> x.gap(gap, 5));
        }
        for (int what : new int[] {-1, 5, 6, LEAST, MOST}) {
            Twins.refuses("abc/abd", "gap(0, " + what + ")", ARGUMENT, x -> x.gap(0, what));
            Twins.refuses("abc/abd", "gap(9, " + what + ")", ARGUMENT, x -> x.gap(9, what));
            Twins.refuses("abc/abd", "gap(the most, " + what + ")", ARGUMENT, x -> x.gap(MOST, what));
        }
    }

    private static void partner() {
        Due.says(20, "Returns the place with which a place is lined up.");
        AnchorChains x = Due.rows("dabc/abcd");
        int[] lower = {-1, 0, 1, 2};
        int[] upper = {1, 2, 3, -1};
        for (int place = 0; place < 4; place++) {
            Due.same("partner(0, " + place + ")", x.partner(0, place), lower[place]);
            Due.same("partner(1, " + place + ")", x.partner(1, place), upper[place]);
        }

        Due.says(20, "row: 0 or 1");
        Due.same("partner(0, 0)", Due.rows("a/ba").partner(0, 0), 1);
        Due.same("partner(1, 1)", Due.rows("a/ba").partner(1, 1), 0);

        Due.says(20, "place: the place in this row");
        AnchorChains full = Due.rows(FULL + "/" + FULL);
        for (int place = 0; place < 24; place++) {
            Due.same("partner(0, " + place + ") of full rows", full.partner(0, place), place);
            Due.same("partner(1, " + place + ") of full rows", full.partner(1, place), place);
        }

        Due.says(20, "Returns the place in the other row; NONE if the sign is left out.");
        Due.same("left out, as there is no other row", Due.rows("a/").partner(0, 0), -1);
        Due.same("left out below, as there is no other row", Due.rows("/a").partner(1, 0), -1);
        Due.same("left out below", Due.rows("a/ba").partner(1, 0), -1);
        Due.same("unlike signs", Due.rows("a/b").partner(0, 0), 0);
        Due.same("of an anchor that is not in the chain", TermSentences.withWords(2, "aabb/bbcaa").partner(0, 2), -1);
    }

    private static void partnerFails() {
        Due.says(20, "Throws IndexOutOfBoundsException if there is no such row or place");
        for (int row : NO_ROWS) {
            Twins.refuses("ab/cd", "partner(" + row + ", 0)", RANGE, x -> x.partner(row, 0));
        }
        for (int place : new int[] {-1, 2, 3, 24, LEAST, MOST}) {
            Twins.refuses("ab/cd", "partner(0, " + place + ")", RANGE, x -> x.partner(0, place));
            Twins.refuses("ab/cd", "partner(1, " + place + ")", RANGE, x -> x.partner(1, place));
        }
        Twins.refuses("/a", "partner(0, 0)", RANGE, x -> x.partner(0, 0));
        Twins.refuses("a/", "partner(1, 0)", RANGE, x -> x.partner(1, 0));
        Twins.refuses("a/abc", "a place of the other row alone", RANGE, x -> x.partner(0, 1));
        Twins.refuses(FULL + "/", "partner(0, 24)", RANGE, x -> x.partner(0, 24));
    }

    private static void doubledIs(String row, int length, int place, int places) {
        int[] due = {length, place, places};
        for (int what = 0; what < 3; what++) {
            Due.same("doubled(0, " + what + ") of " + row, Due.rows(row + "/" + FULL).doubled(0, what), due[what]);
            Due.same("doubled(1, " + what + ") of " + row, Due.rows(FULL + "/" + row).doubled(1, what), due[what]);
        }
    }

    private static void doubled() {
        Due.says(21, "Returns a property of the longest doubled stretch of a row.");
        doubledIs("dabcab", 2, 1, 2);

        Due.says(21, "row: 0 or 1");
        Due.same("doubled(0, 0)", Due.rows("abab/aa").doubled(0, 0), 2);
        Due.same("doubled(1, 0)", Due.rows("abab/aa").doubled(1, 0), 1);

        Due.says(21, "what: 0: its length; 1: its first place; 2: at how many places it stands");
        doubledIs("abab", 2, 0, 2);
        doubledIs("ababcab", 2, 0, 3);
        doubledIs("aabacada", 1, 0, 5);
        doubledIs("daadaada", 5, 0, 2);
        doubledIs("a9a9a6", 23, 0, 2);
        doubledIs("b" + "a".repeat(23), 22, 1, 2);
        doubledIs("abcabcabcdabc", 6, 0, 2);

        Due.says(21, "Returns the property; 0 for the length, NONE otherwise, if no sign stands there twice.");
        doubledIs("", 0, -1, -1);
        doubledIs("d", 0, -1, -1);
        doubledIs("dcba", 0, -1, -1);
        doubledIs("dcbad", 1, 0, 2);
        AnchorChains x = Due.rows("ab/ab");
        Due.same("a sign that stands in the other row, too", x.doubled(0, 0), 0);
    }

    private static void doubledFails() {
        Due.says(21, "Throws IndexOutOfBoundsException if there is no such row");
        for (int row : NO_ROWS) {
            Twins.refuses("aab/ccd", "doubled(" + row + ", 0)", RANGE, x -> x.doubled(row, 0));
        }

        Due.says(21, "Throws IllegalArgumentException if what is not 0 to 2");
        for (int what : new int[] {-1, 3, 4, LEAST, MOST}) {
            Twins.refuses("aab/ccd", "doubled(0, " + what + ")", ARGUMENT, x -> x.doubled(0, what));
            Twins.refuses("/", "doubled(1, " + what + ")", ARGUMENT, x -> x.doubled(1, what));
        }
    }

    private static void counts(String rows, int length, int... numbers) {
        AnchorChains x = TermSentences.withWords(length, rows);
        for (int what = 0; what < numbers.length; what++) {
            Due.same("count(" + what + ") of " + rows, x.count(what), numbers[what]);
        }
    }

    private static void count() {
        Due.says(22, "Returns a number.");
        counts("daacbbdd/ccaadbbc", 2, 8, 8, 2, 4, 2, 3, 12, 12, 2, 2, 4, 1, 1, 0, 2);

        Due.says(22, "what: 0, 1: signs of the rows 0, 1; 2: anchors; 3: turned anchors; 4: anchors of the chain; 5: "
                + "gaps; 6: the cost of the rows; 7: the free cost; 8: turned stretches; 9: turned anchors of the "
                + "longest turned stretch, 0 if there is none; 10: pairs of like signs that are lined up (one of each "
                + "row); 11: signs of the upper row that are left out; 12: of the lower row; 13: snapshots that are "
                + "taken; 14: saved states");
        counts("/", 5, 0, 0, 0, 0, 0, 1, 0, 0, 0, 0, 0, 0, 0, 0, 2);
        counts("a9a9a6/", 2, 24, 0, 0, 0, 0, 1, 72, 72, 0, 0, 0, 24, 0, 0, 2);
        counts("/a9a9a6", 2, 0, 24, 0, 0, 0, 1, 72, 72, 0, 0, 0, 0, 24, 0, 2);
        counts("a9a9a6/a9a9a6", 5, 24, 24, 0, 0, 0, 1, 0, 0, 0, 0, 24, 0, 0, 0, 2);
        counts("a9a9a6/b9b9b6", 5, 24, 24, 0, 0, 0, 1, 48, 48, 0, 0, 0, 0, 0, 0, 2);
        counts(FULL_OF_WORDS + "/" + FULL_OF_WORDS, 5, 24, 24, 20, 6, 20, 2, 0, 0, 3, 2, 24, 0, 0, 0, 2);
        counts("abcd/dcba", 2, 4, 4, 0, 3, 0, 1, 8, 8, 1, 3, 0, 0, 0, 0, 2);
        counts("abcda/dcbad", 2, 5, 5, 0, 4, 0, 1, 10, 10, 2, 3, 0, 0, 0, 0, 2);
        counts("abcd/cdab", 2, 4, 4, 2, 0, 1, 2, 12, 8, 0, 0, 2, 2, 2, 0, 2);
        counts("abc/ddabc", 3, 3, 5, 1, 0, 1, 2, 6, 6, 0, 0, 3, 0, 2, 0, 2);
        counts("ddabc/abc", 3, 5, 3, 1, 0, 1, 2, 6, 6, 0, 0, 3, 2, 0, 0, 2);
    }

    private static void countMore() {
        AnchorChains x = new AnchorChains();
        for (int many = 0; many <= 8; many++) {
            Due.same("saved states of " + many, x.count(14), Math.min(many, 6));
            x.exchange();
        }
        Due.same("no snapshot", x.count(13), 0);
        x.keep(1);
        Due.same("the second one", x.count(13), 1);
        x.keep(1);
        Due.same("the second one again", x.count(13), 1);
        x.keep(0);
        Due.same("both", x.count(13), 2);

        Due.says(22, "Returns the number.");
        for (int many = 0; many <= 24; many++) {
            Due.same("signs above", Due.rows("a".repeat(many) + "/").count(0), many);
            Due.same("signs below", Due.rows("/" + "a".repeat(many)).count(1), many);
            Due.same("pairs of like signs", Due.rows("a".repeat(many) + "/" + "a".repeat(24)).count(10), many);
            Due.same("signs left out below", Due.rows("a".repeat(many) + "/" + "a".repeat(24)).count(12), 24 - many);
        }
    }

    /** What was found of the rows before must not stay. */
    private static void countAgain() {
        String[] rows = {"abcd/dcba", "abcd/badc", "abcd/abcd", "ab/", "/ab", "aabb/bbaa", FULL + "/dcba",
            FULL_OF_WORDS + "/" + FULL_OF_WORDS, "a/b", "/"};
        AnchorChains x = new AnchorChains();
        x.set(0, 2);
        for (String each : rows) {
            Due.type(x, each);
            x.read();
            AnchorChains y = TermSentences.withWords(2, each);
            for (int what = 0; what < 13; what++) {
                Due.same("count(" + what + ") of " + each + " behind others", x.count(what), y.count(what));
            }
        }
    }

    private static void countFails() {
        Due.says(22, "Throws IllegalArgumentException if what is not 0 to 14");
        for (int what : new int[] {-1, 15, 16, LEAST, MOST}) {
            Twins.refuses("abc/abd", "count(" + what + ")", ARGUMENT, x -> x.count(what));
            Twins.refuses("/", "count(" + what + ")", ARGUMENT, x -> x.count(what));
        }
    }

    private static void setting() {
        int[] low = {2, 0, 0, 0};
        int[] high = {5, 9, 9, 24};
        Due.says(23, "Returns a setting.");
        for (int setting = 0; setting < 4; setting++) {
            AnchorChains x = new AnchorChains();
            x.set(setting, low[setting]);
            Due.same("setting(" + setting + ") as the least", x.setting(setting), low[setting]);
            x.set(setting, high[setting]);
            Due.same("setting(" + setting + ") as the greatest", x.setting(setting), high[setting]);
        }

        Due.says(23, "setting: 0 to 3");
        int[] first = {3, 2, 3, 4};
        for (int setting = 0; setting < 4; setting++) {
            Due.same("setting(" + setting + ")", new AnchorChains().setting(setting), first[setting]);
        }

        Due.says(23, "Returns its value.");
        AnchorChains x = new AnchorChains();
        int[] values = {4, 7, 8, 23};
        for (int setting = 0; setting < 4; setting++) {
            x.set(setting, values[setting]);
        }
        for (int setting = 0; setting < 4; setting++) {
            Due.same("setting(" + setting + ")", x.setting(setting), values[setting]);
        }

        Due.says(23, "Throws IndexOutOfBoundsException if there is no such setting");
        for (int setting : new int[] {-1, 4, 5, LEAST, MOST}) {
            Twins.refuses("abc/abd", "setting(" + setting + ")", RANGE, y -> y.setting(setting));
        }
    }
}
