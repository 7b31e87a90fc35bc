/** Promises 16 to 23: looks at signs, anchors, gaps, partners, doubled stretches, numbers and settings. */
public final class LooksTest {
    private static final Class<IndexOutOfBoundsException> RANGE = IndexOutOfBoundsException.class;
    private static final Class<IllegalArgumentException> ARGUMENT = IllegalArgumentException.class;
    private static final int[] FAR = {-1, 2, 24, 25, Integer.MIN_VALUE, Integer.MAX_VALUE};

    public static void main(String[] args) {
        sign();
        anchor();
        anchorOnce();
        anchorsThatDoNotFit();
        chainOfSeveral();
        anchorWrong();
        turned();
        turnedWrong();
        gapWithoutChain();
        gapsOfChain();
        gapWrong();
        partner();
        band();
        ways();
        doubled();
        count();
        setting();
        Due.end();
    }

    private static AnchorChains withWords(int length, String text) {
        AnchorChains x = Due.rows(text);
        x.set(0, length);
        return x;
    }

    private static void list(String told, AnchorChains x, int anchors, int... properties) {
        Due.same(told + ": count(2)", x.count(2), anchors);
        for (int i = 0; i < anchors * 4; i++) {
            Due.same(told + ": anchor(" + i / 4 + ", " + i % 4 + ")", x.anchor(i / 4, i % 4), properties[i]);
        }
    }

    private static void gaps(String told, AnchorChains x, int gaps, int... properties) {
        Due.same(told + ": count(5)", x.count(5), gaps);
        int cost = 0;
        for (int i = 0; i < gaps * 5; i++) {
            Due.same(told + ": gap(" + i / 5 + ", " + i % 5 + ")", x.gap(i / 5, i % 5), properties[i]);
            cost += i % 5 == 4 ? properties[i] : 0;
        }
        for (int what = 0; what < 5; what++) {
            Due.same(told + ": gap behind the last one", x.gap(gaps, what), AnchorChains.NONE);
            Due.same(told + ": gap far away", x.gap(Integer.MAX_VALUE, what), AnchorChains.NONE);
        }
        Due.same(told + ": count(6)", x.count(6), cost);
    }

    private static void partners(String told, AnchorChains x, int row, int... places) {
        for (int place = 0; place < places.length; place++) {
            Due.same(told + ": partner(" + row + ", " + place + ")", x.partner(row, place), places[place]);
        }
        Due.same(told + ": signs", x.count(row), places.length);
    }

    private static void sign() {
        AnchorChains x = Due.rows("abcd/dc");
        for (int place = 0; place < 4; place++) {
            Due.same("16: sign(0, " + place + ")", x.sign(0, place), place);
        }
        Due.same("16: sign(1, 0)", x.sign(1, 0), 3);
        Due.same("16: sign(1, 1)", x.sign(1, 1), 2);
        for (int far : FAR) {
            Due.failsAndKeeps(x, "16: sign row " + far, RANGE, () -> x.sign(far, 0));
            Due.failsAndKeeps(x, "16: sign place " + far, RANGE, () -> x.sign(1, far));
        }
        Due.failsAndKeeps(x, "16: sign(0, 4)", RANGE, () -> x.sign(0, 4));
        Due.fails("16: sign of an empty row", RANGE, () -> new AnchorChains().sign(0, 0));
    }

    private static void anchor() {
        list("17: one word each", withWords(3, "abc/abc"), 1, 0, 0, 0, 1);
        list("17: words side by side", withWords(3, "abcd/abcd"), 2, 0, 0, 0, 1, 1, 1, 1, 2);
        list("17: at other places", withWords(2, "abcd/cabd"), 1, 0, 1, 0, 1);
        list("17: short rows", withWords(5, "abcd/abcd"), 0);
        list("17: rows of one word", withWords(5, "abcda/abcda"), 1, 0, 0, 0, 1);
        list("17: empty rows", new AnchorChains(), 0);
    }

    private static void anchorOnce() {
        list("17: twice above", withWords(2, "abab/ab"), 0);
        list("17: twice below", withWords(2, "ab/abab"), 0);
        list("17: overlapping words", withWords(2, "aaa/aa"), 0);
        list("17: overlapping words below", withWords(2, "aa/aaa"), 0);
        list("17: once above, never below", withWords(2, "ab/ba"), 0);
        list("17: a word of like signs", withWords(2, "baab/daac"), 1, 1, 1, 0, 1);
    }

    private static void anchorsThatDoNotFit() {
        list("17: overlapping, pushed apart", withWords(2, "abc/abdbc"), 2, 0, 0, 0, 1, 1, 3, -1, 1);
        list("17: pushed apart above", withWords(2, "abdbc/abc"), 2, 0, 0, 0, 1, 3, 1, -1, 1);
        list("17: crossing", withWords(2, "abcd/cdab"), 2, 0, 2, 0, 1, 2, 0, -1, 1);
        list("17: side by side", withWords(2, "aacc/aadcc"), 2, 0, 0, 0, 1, 2, 3, 1, 2);
        list("17: apart by less than a word above", withWords(3, "abcda/abcbcda"), 3, 0, 0, -1, 1, 1, 3, 0, 1,
                2, 4, 1, 2);
    }

    private static void chainOfSeveral() {
        AnchorChains x = withWords(2, "aabbccdd/ccddaabb");
        list("17: two chains", x, 6, 0, 4, 0, 1, 1, 5, 1, 2, 2, 6, 2, 3, 4, 0, -1, 1, 5, 1, -1, 2, 6, 2, -1, 3);
        AnchorChains y = withWords(2, "ccddaabb/aabbccdd");
        list("17: two chains, exchanged", y, 6, 0, 4, 0, 1, 1, 5, 1, 2, 2, 6, 2, 3, 4, 0, -1, 1, 5, 1, -1, 2, 6, 2, -1,
                3);
        list("17: two second ones", withWords(2, "aabbcc/aaccbb"), 3, 0, 0, 0, 1, 2, 4, 1, 2, 4, 2, -1, 2);
    }

    private static void anchorWrong() {
        AnchorChains x = Due.rows("abcd/abcd");
        for (int far : FAR) {
            Due.failsAndKeeps(x, "17: anchor " + far, RANGE, () -> x.anchor(far, 0));
            Due.failsAndKeeps(x, "17: anchor, and what, " + far, RANGE, () -> x.anchor(far, 4));
        }
        for (int what : new int[] {-1, 4, Integer.MIN_VALUE, Integer.MAX_VALUE}) {
            Due.failsAndKeeps(x, "17: anchor what " + what, ARGUMENT, () -> x.anchor(1, what));
        }
        Due.fails("17: no anchor", RANGE, () -> new AnchorChains().anchor(0, 0));
    }

    private static void turnedList(String told, AnchorChains x, int anchors, int... properties) {
        Due.same(told + ": count(3)", x.count(3), anchors);
        for (int i = 0; i < anchors * 3; i++) {
            Due.same(told + ": turned(" + i / 3 + ", " + i % 3 + ")", x.turned(i / 3, i % 3), properties[i]);
        }
    }

    private static void turned() {
        AnchorChains x = withWords(3, "abcd/dcba");
        turnedList("18: a turned row", x, 2, 0, 1, 0, 1, 0, 0);
        Due.same("18: count(8)", x.count(8), 1);
        Due.same("18: count(9)", x.count(9), 2);
        AnchorChains y = withWords(2, "abcd/badc");
        turnedList("18: two stretches", y, 2, 0, 0, 0, 2, 2, 1);
        Due.same("18: count(8)", y.count(8), 2);
        Due.same("18: count(9)", y.count(9), 1);
        turnedList("18: a word twice above", withWords(2, "abcab/bacb"), 2, 1, 2, 0, 2, 1, 0);
        turnedList("18: a word twice below", withWords(2, "abc/badcba"), 1, 1, 3, 0);
        AnchorChains v = withWords(3, "abac/caba");
        turnedList("18: not words that are the same read backwards", v, 1, 1, 0, 0);
        turnedList("18: short rows", withWords(5, "abcd/dcba"), 0);
        AnchorChains w = withWords(2, "abdcadb/bdacdba");
        Due.same("18: some stretches, count(3)", w.count(3), 6);
        turnedList("18: some stretches", w, 6, 0, 5, 0, 1, 4, 0, 2, 3, 0, 3, 2, 0, 4, 1, 0, 5, 0, 0);
        Due.same("18: none", Due.rows("/").count(8), 0);
    }

    private static void turnedWrong() {
        AnchorChains x = Due.rows("abcd/dcba");
        for (int far : FAR) {
            Due.failsAndKeeps(x, "18: turned " + far, RANGE, () -> x.turned(far, 0));
            Due.failsAndKeeps(x, "18: turned, and what, " + far, RANGE, () -> x.turned(far, 3));
        }
        for (int what : new int[] {-1, 3, Integer.MIN_VALUE, Integer.MAX_VALUE}) {
            Due.failsAndKeeps(x, "18: turned what " + what, ARGUMENT, () -> x.turned(1, what));
        }
        Due.fails("18: no turned anchor", RANGE, () -> new AnchorChains().turned(0, 0));
    }

    private static void gapWithoutChain() {
        gaps("19: empty rows", new AnchorChains(), 1, 0, 0, 0, 0, 0);
        gaps("19: no chain", Due.rows("ab/abcc"), 1, 0, 2, 0, 4, 6);
        gaps("19: an empty upper row", Due.rows("/abcd"), 1, 0, 0, 0, 4, 12);
        gaps("19: an empty lower row", Due.rows("abc/"), 1, 0, 3, 0, 0, 9);
    }

    private static void gapsOfChain() {
        gaps("19: like rows", withWords(3, "abcd/abcd"), 2, 0, 0, 0, 0, 0, 4, 0, 4, 0, 0);
        gaps("19: ahead and behind", withWords(3, "dabc/abcbb"), 2, 0, 1, 0, 0, 3, 4, 0, 3, 2, 6);
        gaps("19: between", withWords(2, "aabcc/aaddcc"), 3, 0, 0, 0, 0, 0, 2, 1, 2, 2, 5, 5, 0, 6, 0, 0);
        gaps("19: between, below alone", withWords(2, "aacc/aadcc"), 3, 0, 0, 0, 0, 0, 2, 0, 2, 1, 3, 4, 0, 5, 0, 0);
        gaps("19: between, above alone", withWords(2, "aadcc/aacc"), 3, 0, 0, 0, 0, 0, 2, 1, 2, 0, 3, 5, 0, 4, 0, 0);
        gaps("19: pushed apart", withWords(2, "abc/abdbc"), 2, 0, 0, 0, 0, 0, 2, 1, 2, 3, 6);
        gaps("19: words that touch", withWords(2, "abcd/abcd"), 2, 0, 0, 0, 0, 0, 4, 0, 4, 0, 0);
    }

    private static void gapWrong() {
        AnchorChains x = Due.rows("abcd/abcd");
        for (int gap : new int[] {-1, Integer.MIN_VALUE}) {
            Due.failsAndKeeps(x, "19: gap " + gap, ARGUMENT, () -> x.gap(gap, 0));
        }
        for (int what : new int[] {-1, 5, Integer.MIN_VALUE, Integer.MAX_VALUE}) {
            Due.failsAndKeeps(x, "19: gap what " + what, ARGUMENT, () -> x.gap(0, what));
            Due.failsAndKeeps(x, "19: gap far away, what " + what, ARGUMENT, () -> x.gap(99, what));
        }
    }

    private static void partner() {
        AnchorChains x = withWords(3, "dabc/abcbb");
        partners("20: the words of the chain", x, 0, -1, 0, 1, 2);
        partners("20: the words of the chain", x, 1, 1, 2, 3, -1, -1);
        AnchorChains y = withWords(2, "abc/abdbc");
        partners("20: a gap", y, 0, 0, 1, 4);
        partners("20: a gap", y, 1, 0, 1, -1, -1, 2);
        for (int far : FAR) {
            Due.failsAndKeeps(x, "20: partner row " + far, RANGE, () -> x.partner(far, 0));
        }
        Due.failsAndKeeps(x, "20: partner(0, 4)", RANGE, () -> x.partner(0, 4));
        Due.failsAndKeeps(x, "20: partner(1, 5)", RANGE, () -> x.partner(1, 5));
        Due.failsAndKeeps(x, "20: partner(1, -1)", RANGE, () -> x.partner(1, -1));
        Due.fails("20: partner in an empty row", RANGE, () -> new AnchorChains().partner(0, 0));
    }

    private static void band() {
        AnchorChains x = withWords(5, "abab/baba");
        Due.same("19: shifted by one", x.count(6), 6);
        partners("20: shifted by one", x, 0, 1, 2, 3, -1);
        partners("20: shifted by one", x, 1, -1, 0, 1, 2);
        x.set(3, 1);
        Due.same("19: a band of one", x.count(6), 6);
        x.set(3, 0);
        Due.same("19: no band", x.count(6), 8);
        partners("20: no band", x, 0, 0, 1, 2, 3);
        Due.same("22: the free cost has no band", x.count(7), 6);
        AnchorChains y = withWords(5, "abab/babacc");
        y.set(3, 0);
        Due.same("19: the difference of the lengths is a band", y.count(6), 8);
        AnchorChains z = withWords(5, "babacc/abab");
        z.set(3, 0);
        Due.same("19: the other way around", z.count(6), 8);
    }

    private static void ways() {
        AnchorChains x = withWords(5, "a/aa");
        partners("20: the last sign is lined up", x, 0, 1);
        partners("20: the first sign is left out", x, 1, -1, 0);
        AnchorChains y = withWords(5, "ab/ba");
        y.set(2, 1);
        partners("20: the last sign above is left out first", y, 0, 1, -1);
        partners("20: the last sign above is left out first", y, 1, -1, 0);
        AnchorChains z = withWords(5, "a/b");
        z.set(2, 1);
        partners("20: lined up, if it costs the same", z, 0, 0);
        z.set(1, 3);
        partners("20: left out, if it costs less", z, 0, -1);
        partners("20: left out, if it costs less", z, 1, -1);
    }

    private static void doubledIs(String row, int length, int place, int times) {
        AnchorChains x = Due.rows(row + "/");
        AnchorChains y = Due.rows("/" + row);
        int[] due = {length, place, times};
        for (int what = 0; what < 3; what++) {
            Due.same("21: doubled(0, " + what + ") of " + row, x.doubled(0, what), due[what]);
            Due.same("21: doubled(1, " + what + ") of " + row, y.doubled(1, what), due[what]);
            Due.same("21: doubled of an empty row", x.doubled(1, what), what == 0 ? 0 : -1);
        }
    }

    private static void doubled() {
        doubledIs("", 0, -1, -1);
        doubledIs("abcd", 0, -1, -1);
        doubledIs("abca", 1, 0, 2);
        doubledIs("dabcbc", 2, 2, 2);
        doubledIs("aaa", 2, 0, 2);
        doubledIs("ababa", 3, 0, 2);
        doubledIs("abdabcab", 2, 0, 3);
        doubledIs("cdabcdbab", 2, 0, 2);
        doubledIs("bcaca", 2, 1, 2);
        doubledIs("dccadcb", 2, 0, 2);
        doubledIs("a9a9a6", 23, 0, 2);
        doubledIs("cba", 0, -1, -1);
        AnchorChains x = Due.rows("aab/aab");
        for (int far : FAR) {
            Due.failsAndKeeps(x, "21: doubled row " + far, RANGE, () -> x.doubled(far, 3));
        }
        for (int what : new int[] {-1, 3, Integer.MIN_VALUE, Integer.MAX_VALUE}) {
            Due.failsAndKeeps(x, "21: doubled what " + what, ARGUMENT, () -> x.doubled(0, what));
        }
    }

    private static void counts(String text, int length, int... numbers) {
        AnchorChains x = withWords(length, text);
        for (int what = 0; what < 15; what++) {
            Due.same("22: count(" + what + ") of " + text, x.count(what), numbers[what]);
        }
    }

    private static void count() {
        counts("dabc/abcbb", 3, 4, 5, 1, 0, 1, 2, 9, 9, 0, 0, 3, 1, 2, 0, 2);
        counts("aabcc/aaddcc", 2, 5, 6, 2, 0, 2, 3, 5, 5, 0, 0, 4, 0, 1, 0, 2);
        counts("abcdab/ddcba", 2, 6, 5, 0, 2, 0, 1, 9, 9, 1, 2, 2, 1, 0, 0, 2);
        counts("a9a9a6/", 2, 24, 0, 0, 0, 0, 1, 72, 72, 0, 0, 0, 24, 0, 0, 2);
        counts("/a9a9a6", 2, 0, 24, 0, 0, 0, 1, 72, 72, 0, 0, 0, 0, 24, 0, 2);
        counts("a9a9a6/a9a9a6", 2, 24, 24, 0, 0, 0, 1, 0, 0, 0, 0, 24, 0, 0, 0, 2);
        counts("a9a9a6/b9b9b6", 5, 24, 24, 0, 0, 0, 1, 48, 48, 0, 0, 0, 0, 0, 0, 2);
        counts("abc/", 2, 3, 0, 0, 0, 0, 1, 9, 9, 0, 0, 0, 3, 0, 0, 2);
        counts("abcd/cdab", 2, 4, 4, 2, 0, 1, 2, 12, 8, 0, 0, 2, 2, 2, 0, 2);
        AnchorChains x = Due.rows("abc/d");
        x.keep(1);
        Due.same("22: one snapshot", x.count(13), 1);
        x.keep(0);
        Due.same("22: two snapshots", x.count(13), 2);
        for (int what : new int[] {-1, 15, Integer.MIN_VALUE, Integer.MAX_VALUE}) {
            Due.failsAndKeeps(x, "22: count " + what, ARGUMENT, () -> x.count(what));
        }
    }

    private static void setting() {
        AnchorChains x = new AnchorChains();
        x.set(0, 2);
        x.set(1, 7);
        x.set(2, 8);
        x.set(3, 20);
        int[] due = {2, 7, 8, 20};
        for (int i = 0; i < 4; i++) {
            Due.same("23: setting(" + i + ")", x.setting(i), due[i]);
        }
        for (int setting : new int[] {-1, 4, Integer.MIN_VALUE, Integer.MAX_VALUE}) {
            Due.failsAndKeeps(x, "23: setting " + setting, RANGE, () -> x.setting(setting));
        }
    }
}
