/** The sentences under "Gaps, costs" and "Stretches". */
final class GapSentences {
    private static final String FULL = "abcdabcdabcdabcdabcdabcd";

    private GapSentences() {
    }

    static void all() {
        wordsLinedUp();
        gaps();
        gapBetween();
        noChain();
        parts();
        prices();
        sameOrder();
        band();
        bandOfParts();
        bandOfGap();
        leastSum();
        sumOfGaps();
        toldWay();
        toldWayOfSeveral();
        toldWayWithinBand();
        freeCost();
        turnedStretch();
        turnedStretches();
        doubledStretch();
        longestDoubled();
    }

    private static AnchorChains withSettings(String text, int... settings) {
        AnchorChains x = Due.rows(text);
        for (int setting = 0; setting < settings.length; setting++) {
            x.set(setting, settings[setting]);
        }
        return x;
    }

    private static void partners(String told, AnchorChains x, int row, int... places) {
        for (int place = 0; place < places.length; place++) {
            Due.same(told + ": partner(" + row + ", " + place + ")", x.partner(row, place), places[place]);
        }
        Due.same(told + ": signs of row " + row, x.count(row), places.length);
    }

    private static void gap(String told, AnchorChains x, int gap, int... properties) {
        for (int what = 0; what < 5; what++) {
            Due.same(told + ": gap(" + gap + ", " + what + ")", x.gap(gap, what), properties[what]);
        }
    }

    private static void wordsLinedUp() {
        Due.says(0, "The chain lines up the signs of its words, sign by sign.");
        for (int length = 2; length <= 5; length++) {
            String word = "abcda".substring(0, length);
            AnchorChains x = withSettings("ddd" + word + "/" + word + "ccc", length);
            for (int i = 0; i < length; i++) {
                Due.same("words of " + length + ": partner above", x.partner(0, 3 + i), i);
                Due.same("words of " + length + ": partner below", x.partner(1, i), 3 + i);
            }
            Due.same("words of " + length + ": ahead of it", x.partner(0, 2), -1);
            Due.same("words of " + length + ": behind it", x.partner(1, length), -1);
        }
        partners("words that overlap", withSettings("abcd/abcd", 3), 0, 0, 1, 2, 3);
        partners("a sign in the gap behind it", withSettings("ddabcd/abcad", 3), 0, -1, -1, 0, 1, 2, 4);
        partners("a sign in the gap behind it, below", withSettings("ddabcd/abcad", 3), 1, 2, 3, 4, -1, 5);
        partners("not the sign ahead of them", withSettings("dabc/cabc", 3, 9, 1), 0, -1, 1, 2, 3);
        partners("nor the sign behind them", withSettings("abcd/abcc", 3, 9, 1), 0, 0, 1, 2, -1);
        partners("nor those around them, below", withSettings("dabcd/cabcc", 3, 9, 1), 1, -1, 1, 2, 3, -1);
        partners("an anchor that is not in the chain", withSettings("aabb/bbcaa", 2), 0, 3, 4, -1, -1);
        AnchorChains full = withSettings(FULL.substring(0, 19) + "ddddd/" + "ddddd" + FULL.substring(0, 19), 5);
        Due.same("up to the last place of a full row", full.count(2), 1);
        partners("the word at the ends of full rows", full, 0, -1, -1, -1, -1, -1, -1, -1, -1, -1, -1, -1, -1, -1, -1,
                -1, -1, -1, -1, -1, 0, 1, 2, 3, 4);
    }

    private static void gaps() {
        Due.says(0, "There are gaps: what stands ahead of the first word of the chain, and behind the last one (also "
                + "if that is nothing); and what stands between a word and the next one of the chain, if that is "
                + "something in at least one row.");
        AnchorChains x = withSettings("abc/abc", 3);
        Due.same("nothing ahead and behind", x.count(5), 2);
        gap("nothing ahead", x, 0, 0, 0, 0, 0, 0);
        gap("nothing behind", x, 1, 3, 0, 3, 0, 0);
        AnchorChains y = withSettings("dabcd/cabcc", 3);
        Due.same("a sign each ahead and behind", y.count(5), 2);
        gap("a sign each ahead", y, 0, 0, 1, 0, 1, 2);
        gap("a sign each behind", y, 1, 4, 1, 4, 1, 2);
        AnchorChains z = withSettings("dabc/abcc", 3);
        gap("a sign ahead above alone", z, 0, 0, 1, 0, 0, 3);
        gap("a sign behind below alone", z, 1, 4, 0, 3, 1, 3);
    }

    private static void gapBetween() {
        Due.same("words that touch in both", withSettings("aabb/aabb", 2).count(5), 2);
        AnchorChains touching = withSettings("abccda/abccda", 3);
        Due.same("words that touch, others overlap them", touching.count(5), 2);
        AnchorChains alone = withSettings("abcdbc/abcd", 2);
        Due.same("words that touch, none between", alone.count(4), 2);
        Due.same("words that touch, none between: gaps", alone.count(5), 2);
        gap("behind words that touch", alone, 1, 4, 2, 4, 0, 6);
        Due.same("words of three that touch, none between", withSettings("abcdabbbcda/abcdab", 3).count(5), 2);
        Due.same("words that overlap in both", withSettings("abcd/abcd", 3).count(5), 2);
        AnchorChains above = withSettings("aacbb/aabb", 2);
        Due.same("a sign between above alone", above.count(5), 3);
        gap("a sign between above alone", above, 1, 2, 1, 2, 0, 3);
        AnchorChains below = withSettings("aabb/aacbb", 2);
        Due.same("a sign between below alone", below.count(5), 3);
        gap("a sign between below alone", below, 1, 2, 0, 2, 1, 3);
        AnchorChains both = withSettings("aacbb/aadbb", 2);
        Due.same("a sign between in both", both.count(5), 3);
        gap("a sign between in both", both, 1, 2, 1, 2, 1, 2);
        AnchorChains many = withSettings("aacbbdcc/aadbbcc", 2);
        Due.same("two gaps between", many.count(5), 4);
        gap("the last one between", many, 2, 5, 1, 5, 0, 3);
        gap("the one behind them", many, 3, 8, 0, 7, 0, 0);
    }

    private static void noChain() {
        Due.says(0, "(Without a chain the whole rows are one gap.)");
        String[] rows = {"/", "a/", "/b", "ab/ba", FULL + "/", "/" + FULL, FULL + "/" + "a".repeat(24)};
        int[] cost = {0, 3, 3, 4, 72, 72, 36};
        for (int i = 0; i < rows.length; i++) {
            AnchorChains x = withSettings(rows[i], 5);
            Due.same(rows[i] + ": anchors of the chain", x.count(4), 0);
            Due.same(rows[i] + ": gaps", x.count(5), 1);
            gap(rows[i], x, 0, 0, x.count(0), 0, x.count(1), cost[i]);
            Due.same(rows[i] + ": no second gap", x.gap(1, 4), -1);
        }
    }

    private static void parts() {
        Due.says(0, "A gap has a part of the upper and a part of the lower row; one or both can be empty.");
        gap("the lower part is empty", withSettings("ddabc/abc", 3), 0, 0, 2, 0, 0, 6);
        gap("the upper part is empty", withSettings("abc/ddabc", 3), 0, 0, 0, 0, 2, 6);
        gap("none is empty", withSettings("dabc/ccabc", 3), 0, 0, 1, 0, 2, 5);
        gap("both are empty", withSettings("abc/abc", 3), 1, 3, 0, 3, 0, 0);
        gap("both rows are empty", new AnchorChains(), 0, 0, 0, 0, 0, 0);
    }

    private static void prices() {
        Due.says(0, "To line up two parts of m and n signs: a sign of the one is lined up with a sign of the other "
                + "(for 0 if they are alike, otherwise for setting 1), or left out (for setting 2), so that lined up "
                + "signs follow one another in the same order in both.");
        for (int price = 0; price <= 9; price++) {
            Due.same("alike for 0 of " + price, withSettings("a/a", 3, price, 9).count(6), 0);
            Due.same("unlike for " + price, withSettings("a/b", 3, price, 9).count(6), price);
            Due.same("left out for " + price, withSettings("a/", 3, 9, price).count(6), price);
            Due.same("left out below for " + price, withSettings("/b", 3, 9, price).count(6), price);
            Due.same("two left out for " + price, withSettings("a/b", 3, 9, price).count(6), Math.min(9, 2 * price));
        }
        Due.same("24 left out for 9", withSettings("a9a9a6/", 3, 0, 9).count(6), 216);
        Due.same("48 left out for 9, were they not lined up", withSettings("a9a9a6/b9b9b6", 3, 9, 9).count(6), 216);
        Due.same("48 left out for 4", withSettings("a9a9a6/b9b9b6", 3, 9, 4).count(6), 192);
        Due.same("nothing for nothing", withSettings("/", 3, 9, 9).count(6), 0);
    }

    private static void sameOrder() {
        Due.same("no two may cross", withSettings("ab/ba", 3, 9, 1).count(6), 2);
        Due.same("nor more", withSettings("abc/cba", 3, 9, 1).count(6), 4);
        Due.same("unlike ones in order", withSettings("ab/ba", 3, 2, 9).count(6), 4);
        Due.same("one sign is lined up once at most", withSettings("a/aa", 3, 2, 3).count(6), 3);
    }

    /** What costs least is to leave out all signs but the like ones; it needs a band as wide as the shift. */
    private static AnchorChains shifted(int shift, int band) {
        String like = "a".repeat(24 - shift);
        return withSettings("b".repeat(shift) + like + "/" + like + "c".repeat(shift), 5, 9, 1, band);
    }

    private static void band() {
        Due.says(0, "It is within the band, if, at each step from the beginning, the numbers of signs that are done "
                + "with in both parts differ by at most the greater one of setting 3 and the difference of m and n.");
        for (int shift = 1; shift <= 12; shift++) {
            Due.same("shifted by " + shift + ", a band as wide", shifted(shift, shift).count(6), 2 * shift);
            Due.same("shifted by " + shift + ", a wider band", shifted(shift, shift + 1).count(6), 2 * shift);
            Due.same("shifted by " + shift + ", the widest band", shifted(shift, 24).count(6), 2 * shift);
            int narrow = shifted(shift, shift - 1).count(6);
            Due.same("shifted by " + shift + ", a band less wide costs more", narrow > 2 * shift ? 1 : 0, 1);
        }
        Due.same("no band at all", shifted(1, 0).count(6), 18);
        Due.same("all 24 apart", withSettings("a9a9a6/b9b9b6", 5, 9, 0, 24).count(6), 0);
        Due.same("all 24 apart, in steps", withSettings("a9a9a6/b9b9b6", 5, 9, 0, 1).count(6), 0);
        Due.same("all 24 apart, without a step", withSettings("a9a9a6/b9b9b6", 5, 9, 0, 0).count(6), 216);
    }

    /** The difference of both parts is a band of its own; setting 3 counts only if it is the greater one. */
    private static void bandOfParts() {
        Due.same("the difference above", withSettings("ccabab/abab", 5, 9, 1, 0).count(6), 2);
        Due.same("the difference below", withSettings("abab/ccabab", 5, 9, 1, 0).count(6), 2);
        Due.same("the difference less one", withSettings("ccabab/ababd", 5, 9, 1, 0).count(6), 7);
        Due.same("setting 3 is the greater one", withSettings("ccabab/ababd", 5, 9, 1, 2).count(6), 3);
        Due.same("both are the same", withSettings("cabab/abab", 5, 9, 1, 1).count(6), 1);
        Due.same("the difference of the widest parts", withSettings("a9a9a6/", 5, 9, 1, 0).count(6), 24);
        Due.same("the difference of the widest parts below", withSettings("/a9a9a6", 5, 9, 1, 0).count(6), 24);
    }

    /** What is done with is counted from the beginning of the gap, not of the rows. */
    private static void bandOfGap() {
        AnchorChains x = withSettings("ddddabcda/abcda", 3, 9, 1, 0);
        gap("behind a word that is shifted by four", x, 1, 9, 0, 5, 0, 0);
        AnchorChains y = withSettings("ddddabccd/abcdc", 3, 9, 1, 0);
        gap("a band of 0 behind a word that is shifted", y, 1, 7, 2, 3, 2, 18);
        partners("a band of 0 behind a word that is shifted", y, 1, 4, 5, 6, 7, 8);
        AnchorChains z = withSettings("aabab/aababa", 2, 9, 1, 0);
        Due.same("a row shorter by one", z.count(6), 1);
    }

    private static void leastSum() {
        Due.says(0, "The cost of a gap is the least sum within the band.");
        gap("unlike signs are lined up", withSettings("ab/ba", 5, 2, 3), 0, 0, 2, 0, 2, 4);
        gap("signs are left out", withSettings("ab/ba", 5, 4, 3), 0, 0, 2, 0, 2, 6);
        gap("both cost the same", withSettings("ab/ba", 5, 3, 3), 0, 0, 2, 0, 2, 6);
        gap("signs are left out, but for the band", withSettings("ab/ba", 5, 4, 3, 0), 0, 0, 2, 0, 2, 8);
        gap("all for nothing", withSettings("ab/ba", 5, 0, 9), 0, 0, 2, 0, 2, 0);
        gap("leaving out for nothing", withSettings("ab/ba", 5, 9, 0), 0, 0, 2, 0, 2, 0);
        gap("empty parts", withSettings("/", 5, 9, 9), 0, 0, 0, 0, 0, 0);
        gap("a like sign behind a word that is shifted above", withSettings("ddabcd/abcad", 3), 1, 5, 1, 3, 2, 3);
        gap("a like sign behind a word that is shifted below", withSettings("abcad/ddabcd", 3), 1, 3, 2, 5, 1, 3);
    }

    private static void sumOfGaps() {
        Due.says(0, "The cost of the rows is the sum of the costs of all gaps.");
        AnchorChains x = withSettings("daacbbdd/ccaadbbc", 2);
        int[] costs = {5, 2, 5};
        for (int gap = 0; gap < 3; gap++) {
            Due.same("cost of gap " + gap, x.gap(gap, 4), costs[gap]);
        }
        Due.same("their sum", x.count(6), 12);
        Due.same("of empty rows", new AnchorChains().count(6), 0);
        Due.same("of empty gaps", withSettings("abc/abc", 3).count(6), 0);
        Due.same("of one gap", withSettings("ab/", 3).count(6), 6);
    }

    private static void toldWay() {
        Due.says(0, "Of several ways with this cost the one that is told is found from the end of a gap on: if the "
                + "last signs of both parts can be lined up in such a way, they are; otherwise the last sign of the "
                + "upper part is left out, if it can be; otherwise that of the lower part; and so on with what is "
                + "left.");
        partners("lined up or left out for the same", withSettings("a/b", 5, 2, 1), 0, 0);
        partners("left out for less", withSettings("a/b", 5, 3, 1), 0, -1);
        partners("the last one of like signs below", withSettings("a/aaa", 5), 0, 2);
        partners("the last one of like signs above", withSettings("aaa/a", 5), 0, -1, -1, 0);
        partners("the upper one is left out first", withSettings("ab/ba", 5, 9, 1), 0, 1, -1);
        partners("the upper one is left out first, below", withSettings("ab/ba", 5, 9, 1), 1, -1, 0);
        partners("the lower one alone can be left out", withSettings("a/ab", 5, 9, 1), 0, 0);
        partners("many lower ones are left out", withSettings("a/a" + "b".repeat(23), 5), 0, 0);
        partners("many upper ones are left out", withSettings("a" + "b".repeat(23) + "/a", 5), 1, 0);
        partners("the upper one alone can be left out", withSettings("ab/a", 5, 9, 1), 0, 0, -1);
    }

    private static void toldWayOfSeveral() {
        partners("unlike ones at the end, for the same", withSettings("ab/aa", 5, 2, 1), 0, 0, 1);
        partners("like ones ahead of what is left", withSettings("aab/a", 5, 9, 1), 0, -1, 0, -1);
        partners("the upper one, then the lower one", withSettings("cab/cba", 5, 9, 1), 0, 0, 2, -1);
        partners("all for nothing", withSettings("abc/bca", 5, 0, 0), 0, 0, 1, 2);
        partners("all for nothing, one more below", withSettings("ab/cda", 5, 0, 0), 0, 1, 2);
        partners("all for nothing, one more above", withSettings("cda/ab", 5, 0, 0), 0, -1, 0, 1);
        partners("nothing below", withSettings("ab/", 5), 0, -1, -1);
        partners("nothing above", withSettings("/ab", 5), 1, -1, -1);
    }

    private static void toldWayWithinBand() {
        partners("the upper one can be left out within the band", withSettings("a/ab", 5, 2, 0, 2), 0, -1);
        partners("it can't", withSettings("a/ab", 5, 2, 0, 1), 0, 0);
        partners("it can't, by the difference alone", withSettings("a/ab", 5, 2, 0, 0), 0, 0);
        partners("lined up, as no step aside is within the band", withSettings("ab/ba", 5, 9, 1, 0), 0, 0, 1);
    }

    private static void freeCost() {
        Due.says(0, "The free cost is the least sum for the whole upper and the whole lower row, without anchors and "
                + "without a band.");
        Due.same("of empty rows", new AnchorChains().count(7), 0);
        Due.same("of an empty lower row", Due.rows("ab/").count(7), 6);
        Due.same("of an empty upper row", Due.rows("/ab").count(7), 6);
        AnchorChains x = withSettings("abcd/cdab", 2);
        Due.same("the cost with anchors", x.count(6), 12);
        Due.same("the free cost without them", x.count(7), 8);
        for (int shift = 1; shift <= 12; shift++) {
            Due.same("shifted by " + shift, shifted(shift, 0).count(7), 2 * shift);
        }
        Due.same("24 apart", withSettings("a9a9a6/b9b9b6", 5, 9, 0, 0).count(7), 0);
        Due.same("the greatest", withSettings("a9a9a6/b9b9b6", 5, 9, 9, 0).count(7), 216);
    }

    private static void stretches(String told, AnchorChains x, int stretches, int longest, int... numbers) {
        Due.same(told + ": turned anchors", x.count(3), numbers.length);
        Due.same(told + ": turned stretches", x.count(8), stretches);
        Due.same(told + ": the longest one", x.count(9), longest);
        for (int anchor = 0; anchor < numbers.length; anchor++) {
            Due.same(told + ": turned(" + anchor + ", 2)", x.turned(anchor, 2), numbers[anchor]);
        }
    }

    private static void turnedStretch() {
        Due.says(0, "A turned stretch is a longest possible row of turned anchors with numbers that follow one "
                + "another, whose lower places become less and less.");
        stretches("no turned anchor", withSettings("ab/ab", 2), 0, 0);
        stretches("no sign", withSettings("/", 2), 0, 0);
        stretches("one", withSettings("ab/ba", 2), 1, 1, 0);
        stretches("two, by one less", withSettings("abc/cba", 2), 1, 2, 0, 0);
        stretches("two, by many less", withSettings("abdc/cdbdba", 2), 1, 2, 0, 0);
        stretches("two, more", withSettings("abc/bacb", 2), 2, 1, 0, 1);
        stretches("all of a row", withSettings("abcd/dcba", 2), 1, 3, 0, 0, 0);
        stretches("less, less, more", withSettings("abcda/dcbad", 2), 2, 3, 0, 0, 0, 1);
    }

    private static void turnedStretches() {
        Due.says(0, "Turned stretches are numbered from 0, in the order of their anchors.");
        stretches("more, more", withSettings("abcd/bacbdc", 2), 3, 1, 0, 1, 2);
        stretches("the first one stands behind the second one below", withSettings("abcd/dcba", 3), 1, 2, 0, 0);
        stretches("two of two", withSettings("abcbd/cbadbc", 2), 2, 2, 0, 0, 1, 1);
        stretches("one, then three", withSettings("dabcd/adcba", 2), 2, 3, 0, 1, 1, 1);
        stretches("ten of them", withSettings("cdccbbbcadbdabacc/dcbbbaacdabdbcad", 2), 10, 2,
                0, 1, 2, 2, 3, 4, 5, 6, 7, 7, 8, 9);
    }

    private static void doubled(String row, int length, int place, int places) {
        int[] due = {length, place, places};
        for (int what = 0; what < 3; what++) {
            Due.same(row + " above: doubled(0, " + what + ")", Due.rows(row + "/").doubled(0, what), due[what]);
            Due.same(row + " below: doubled(1, " + what + ")", Due.rows("/" + row).doubled(1, what), due[what]);
        }
    }

    private static void doubledStretch() {
        Due.says(0, "A doubled stretch of a row is a row of signs that stands at two places of it at least (these can "
                + "overlap).");
        doubled("", 0, -1, -1);
        doubled("a", 0, -1, -1);
        doubled("ab", 0, -1, -1);
        doubled("abcd", 0, -1, -1);
        doubled("aa", 1, 0, 2);
        doubled("aaa", 2, 0, 2);
        doubled("aaaa", 3, 0, 2);
        doubled("abab", 2, 0, 2);
        doubled("ababa", 3, 0, 2);
        doubled("abcabc", 3, 0, 2);
        doubled("abacab", 2, 0, 2);
        doubled("abdba", 1, 0, 2);
        doubled("abcabcabc", 6, 0, 2);
        doubled("abdabcab", 2, 0, 3);
        doubled("a9a9a6", 23, 0, 2);
        doubled(FULL, 20, 0, 2);
        doubled("dabcbcbcd", 4, 2, 2);
    }

    private static void longestDoubled() {
        Due.says(0, "The longest one is told by its length and by its first place; of several of the same length the "
                + "one with the lowest first place.");
        doubled("abcda", 1, 0, 2);
        doubled("dcabcab", 3, 1, 2);
        doubled("abba", 1, 0, 2);
        doubled("cabba", 1, 1, 2);
        doubled("abcdbacd", 2, 2, 2);
        doubled("ccaabccdaab", 3, 2, 2);
        doubled("ccaadccdaa", 2, 0, 2);
        doubled("acbcaab", 1, 0, 3);
    }
}
