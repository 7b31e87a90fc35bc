import java.math.BigInteger;
import java.util.ArrayList;
import java.util.List;

/** The sentences of the promises 24 to 28: what would be, the share of like signs, and the hash. */
final class WouldBeSentences {
    private static final Class<IndexOutOfBoundsException> RANGE = IndexOutOfBoundsException.class;
    private static final Class<IllegalArgumentException> ARGUMENT = IllegalArgumentException.class;
    private static final int LEAST = Integer.MIN_VALUE;
    private static final int MOST = Integer.MAX_VALUE;
    private static final int[] LOW = {2, 0, 0, 0};
    private static final int[] HIGH = {5, 9, 9, 24};
    private static final String FULL = "abcdabcdabcdabcdabcdabcd";
    private static final String[] ROWS = {"/", "a/", "/b", "abcd/cdab", "dabcaabdc/abcbbdabdc", FULL + "/dcba",
        "aabbccddaabcdabdcacbdbca/acbdbcaaabbccddaabcdabdc", "a9a9a6/b9b9b6", "bbbb" + "a9a9a2/" + "a9a9a2" + "cccc",
        "abababab/babababa"};

    private WouldBeSentences() {
    }

    static void all() {
        nothingChanged();
        ifSet();
        ifSetWhat();
        ifSetFails();
        ifChanged();
        ifChangedWhere();
        ifChangedFails();
        bestLength();
        bestOfSeveral();
        likeShare();
        digestFromItsStart();
        digestValues();
        digestOfAll();
    }

    private static void nothingChanged() {
        Due.says(0, "Ahead of the calls ifSet, ifChanged, bestLength, likeShare, digest the interface says: ---- what "
                + "would be; nothing is changed.");
        for (String rows : new String[] {"/", "abcdb/dcbabcd", "a/" + FULL}) {
            for (int setting = 0; setting < 4; setting++) {
                int each = setting;
                Twins.keepsAll(rows, "ab/!", "ifSet to the least", x -> x.ifSet(each, LOW[each]));
                Twins.keepsAll(rows, "ab/!", "ifSet to the greatest", x -> x.ifSet(each, HIGH[each]));
            }
            Twins.keepsAll(rows, "ab/!", "bestLength()", AnchorChains::bestLength);
            Twins.keepsAll(rows, "ab/!", "likeShare()", AnchorChains::likeShare);
            Twins.keepsAll(rows, "ab/!", "digest()", AnchorChains::digest);
        }
        for (int sign = 0; sign < 4; sign++) {
            int each = sign;
            Twins.keepsAll("abcdb/dcbabcd", "ab/!", "ifChanged(0, 0, " + sign + ")", x -> x.ifChanged(0, 0, each));
            Twins.keepsAll("abcdb/dcbabcd", "ab/!", "ifChanged(1, 6, " + sign + ")", x -> x.ifChanged(1, 6, each));
        }
    }

    /** What set and undo really do is what would be. */
    private static void setTells(String rows, int setting, int value) {
        AnchorChains x = Due.rows(rows);
        int told = x.ifSet(setting, value);
        x.set(setting, value);
        Due.same("ifSet(" + setting + ", " + value + ") of " + rows, told, x.count(6));
    }

    private static void ifSet() {
        Due.says(24, "Tells what the cost would be with another setting.");
        AnchorChains x = Due.rows("abcd/cdab");
        Due.same("ifSet(0, 2)", x.ifSet(0, 2), 12);
        Due.same("ifSet(0, 5)", x.ifSet(0, 5), 8);
        Due.same("ifSet(1, 0)", x.ifSet(1, 0), 0);
        Due.same("ifSet(2, 0)", x.ifSet(2, 0), 0);
        Due.same("ifSet(3, 0)", x.ifSet(3, 0), 8);
        Due.same("the cost itself", x.count(6), 8);
        AnchorChains y = Due.rows("abab/baba");
        y.set(0, 5);
        y.set(1, 9);
        Due.same("ifSet(3, 0), which costs more", y.ifSet(3, 0), 36);
        Due.same("ifSet(3, 1)", y.ifSet(3, 1), 6);
        Due.same("ifSet(1, 1), with the band as it is", y.ifSet(1, 1), 4);

        Due.says(24, "setting: 0 to 3");
        for (String rows : ROWS) {
            for (int setting = 0; setting < 4; setting++) {
                setTells(rows, setting, LOW[setting]);
                setTells(rows, setting, HIGH[setting]);
            }
        }
    }

    private static void ifSetWhat() {
        Due.says(24, "value: a value that it can have");
        for (int setting = 0; setting < 4; setting++) {
            for (int value = LOW[setting]; value <= HIGH[setting]; value++) {
                setTells("dabcaabdc/abcbbdabdc", setting, value);
            }
            AnchorChains x = Due.rows("abcd/cdab");
            Due.same("ifSet to what it is", x.ifSet(setting, x.setting(setting)), x.count(6));
        }

        Due.says(24, "Returns the cost of the rows then.");
        Due.same("the cost of empty rows", new AnchorChains().ifSet(2, 9), 0);
        Due.same("the cost of an empty lower row", Due.rows(FULL + "/").ifSet(2, 9), 216);
        Due.same("the cost of full rows", Due.rows("a9a9a6/b9b9b6").ifSet(1, 9), 144);
        Due.same("the cost of like rows", Due.rows("abc/abc").ifSet(0, 5), 0);
    }

    private static void ifSetFails() {
        Due.says(24, "Throws IndexOutOfBoundsException if there is no such setting");
        for (int setting : new int[] {-1, 4, 5, LEAST, MOST}) {
            Twins.refuses("abc/abd", "ifSet(" + setting + ", 3)", RANGE, x -> x.ifSet(setting, 3));
        }

        Due.says(24, "Throws IllegalArgumentException if value is out of range");
        for (int i = 0; i < 4; i++) {
            int setting = i;
            for (int value : new int[] {LOW[i] - 1, HIGH[i] + 1, LEAST, MOST}) {
                Twins.refuses("abc/abd", "ifSet(" + i + ", " + value + ")", ARGUMENT, x -> x.ifSet(setting, value));
            }
        }
    }

    private static void ifChanged() {
        Due.says(25, "Tells what the cost would be with another sign.");
        AnchorChains x = Due.rows("abcd/abcd");
        Due.same("ifChanged(0, 0, 1)", x.ifChanged(0, 0, 1), 2);
        Due.same("ifChanged(0, 0, 0)", x.ifChanged(0, 0, 0), 0);
        Due.same("ifChanged(1, 3, 0)", x.ifChanged(1, 3, 0), 2);
        Due.same("the cost itself", x.count(6), 0);

        Due.says(25, "row: 0 or 1");
        Due.same("ifChanged(0, 0, 1) of ab/bb", Due.rows("ab/bb").ifChanged(0, 0, 1), 0);
        Due.same("ifChanged(1, 0, 0) of ab/bb", Due.rows("ab/bb").ifChanged(1, 0, 0), 0);
        Due.same("ifChanged(1, 0, 1) of ab/bb", Due.rows("ab/bb").ifChanged(1, 0, 1), 2);

        Due.says(25, "place: its place");
        for (int place = 0; place < 24; place++) {
            AnchorChains y = Due.rows(FULL + "/" + FULL);
            Due.same("ifChanged at " + place + " above", y.ifChanged(0, place, (place + 1) % 4), 2);
            Due.same("ifChanged at " + place + " below", y.ifChanged(1, place, (place + 1) % 4), 2);
        }
        Due.same("the only sign above", Due.rows("a/b").ifChanged(0, 0, 1), 0);
        Due.same("the only sign below", Due.rows("a/b").ifChanged(1, 0, 0), 0);
    }

    private static void ifChangedWhere() {
        Due.says(25, "sign: 0 to 3");
        for (String rows : ROWS) {
            for (int row = 0; row < 2; row++) {
                for (int place = 0; place < Due.rows(rows).count(row); place += 5) {
                    for (int sign = 0; sign < 4; sign++) {
                        changeTells(rows, row, place, sign);
                    }
                }
            }
        }

        Due.says(25, "Returns the cost of the rows then.");
        AnchorChains x = Due.rows("ab/");
        Due.same("the cost of an empty lower row", x.ifChanged(0, 1, 3), 6);
        x.set(2, 9);
        Due.same("with the settings", x.ifChanged(0, 1, 3), 18);
        Due.same("as a word comes up", Due.rows("ddabd/abcdd").ifChanged(0, 4, 2), 12);
    }

    private static void changeTells(String rows, int row, int place, int sign) {
        AnchorChains x = Due.rows(rows);
        int told = x.ifChanged(row, place, sign);
        x.change(row, place, sign);
        Due.same("ifChanged(" + row + ", " + place + ", " + sign + ") of " + rows, told, x.count(6));
    }

    private static void ifChangedFails() {
        Due.says(25, "Throws IndexOutOfBoundsException if there is no such row or place");
        for (int row : new int[] {-1, 2, LEAST, MOST}) {
            Twins.refuses("ab/cd", "ifChanged(" + row + ", 0, 1)", RANGE, x -> x.ifChanged(row, 0, 1));
        }
        for (int place : new int[] {-1, 2, 3, 24, LEAST, MOST}) {
            Twins.refuses("ab/cd", "ifChanged(0, " + place + ", 1)", RANGE, x -> x.ifChanged(0, place, 1));
            Twins.refuses("ab/cd", "ifChanged(1, " + place + ", 1)", RANGE, x -> x.ifChanged(1, place, 1));
        }
        Twins.refuses("/ab", "ifChanged(0, 0, 1)", RANGE, x -> x.ifChanged(0, 0, 1));
        Twins.refuses("ab/", "ifChanged(1, 0, 1)", RANGE, x -> x.ifChanged(1, 0, 1));
        Twins.refuses(FULL + "/", "ifChanged(0, 24, 1)", RANGE, x -> x.ifChanged(0, 24, 1));

        Due.says(25, "Throws IllegalArgumentException if sign is out of range");
        for (int sign : new int[] {-1, 4, 5, LEAST, MOST}) {
            Twins.refuses("ab/cd", "ifChanged(0, 0, " + sign + ")", ARGUMENT, x -> x.ifChanged(0, 0, sign));
            Twins.refuses("ab/cd", "ifChanged(1, 1, " + sign + ")", ARGUMENT, x -> x.ifChanged(1, 1, sign));
        }
    }

    private static void bestLength() {
        Due.says(26, "Finds the best length of words.");
        AnchorChains x = Due.rows("abcd/cdab");
        for (int length = 2; length <= 5; length++) {
            x.set(0, length);
            Due.same("bestLength() with words of " + length, x.bestLength(), 5);
        }
        AnchorChains y = Due.rows("abab/baba");
        y.set(1, 9);
        y.set(3, 0);
        y.set(0, 2);
        Due.same("bestLength() with the other settings", y.bestLength(), bestBySet("abab/baba"));
    }

    private static int bestBySet(String rows) {
        AnchorChains x = Due.rows(rows);
        x.set(1, 9);
        x.set(3, 0);
        int best = 2;
        int least = MOST;
        for (int length = 2; length <= 5; length++) {
            x.set(0, length);
            best = x.count(6) <= least ? length : best;
            least = Math.min(least, x.count(6));
        }
        return best;
    }

    private static int best(String rows) {
        AnchorChains x = Due.rows(rows);
        x.set(1, 9);
        x.set(3, 0);
        return x.bestLength();
    }

    /** A word that is shifted saves something in a narrow band, if nothing shorter or longer does so. */
    private static void bestOfSeveral() {
        Due.says(26, "Returns the setting 0, 2 to 5, with which the cost of the rows would be least, of several the "
                + "greatest one.");
        Due.same("of empty rows", new AnchorChains().bestLength(), 5);
        Due.same("of like rows", Due.rows(FULL + "/" + FULL).bestLength(), 5);
        Due.same("of rows without a word", Due.rows("a/b").bestLength(), 5);
        Due.same("five alone or all", best("abcdabbbb/ccccabcda"), 5);
        Due.same("four, as five is too long", best("abcdbbbbb/cccccabcd"), 4);
        Due.same("three, as four is too long", best("abcdddddd/ccccccabc"), 3);
        Due.same("two, as three is too long", best("abdddd/ccccab"), 2);
        for (String rows : ROWS) {
            Due.same("of " + rows, best(rows), bestBySet(rows));
        }
    }

    private static void likeShare() {
        Due.says(27, "Returns how much of the rows is lined up with like signs.");
        Due.same("a half", Due.rows("ab/ad").likeShare(), 0.5);
        Due.same("two thirds", Due.rows("aab/aad").likeShare(), 4.0 / 6);
        AnchorChains changed = Due.rows("ab/ad");
        changed.change(1, 1, 1);
        Due.same("all, right after a change", changed.likeShare(), 1.0);
        changed.undo();
        Due.same("a half, right after undo", changed.likeShare(), 0.5);
        AnchorChains put = new AnchorChains();
        put.put(0, 0, 2);
        put.put(1, 0, 2);
        Due.same("all, right after put", put.likeShare(), 1.0);
        put.take(1, 0, 1);
        Due.same("none, right after take", put.likeShare(), 0.0);

        Due.says(27, "Returns count(10), as a double, times 2, divided by the number of signs of both rows; 1.0 if "
                + "both are empty.");
        Due.same("both empty", new AnchorChains().likeShare(), 1.0);
        Due.same("empty above", Due.rows("/a").likeShare(), 0.0);
        Due.same("empty below", Due.rows("a/").likeShare(), 0.0);
        Due.same("none alike", Due.rows("a/b").likeShare(), 0.0);
        Due.same("all alike", Due.rows(FULL + "/" + FULL).likeShare(), 1.0);
        for (int above = 0; above <= 24; above++) {
            for (int below = above == 0 ? 1 : 0; below <= 24; below++) {
                AnchorChains x = Due.rows("a".repeat(above) + "/" + "a".repeat(below));
                Due.same("share of " + above + " and " + below, x.likeShare(),
                        (double) Math.min(above, below) * 2 / (above + below));
            }
        }
    }

    private static void digestFromItsStart() {
        Due.says(28, "Computes a hash of the whole state.");
        AnchorChains x = Due.rows("ab/cd");
        long hash = x.digest();
        x.change(1, 1, 2);
        Due.same("another sign, another hash", x.digest() == hash ? 1 : 0, 0);
        x.undo();
        Due.same("the state from before", x.digest(), hash);
        x.set(3, 5);
        Due.same("another setting, another hash", x.digest() == hash ? 1 : 0, 0);
        x.undo();
        x.append('a');
        Due.same("another buffer, another hash", x.digest() == hash ? 1 : 0, 0);
        x.clearBuffer();
        x.keep(0);
        Due.same("a snapshot, another hash", x.digest() == hash ? 1 : 0, 0);

        Due.says(28, "The hash starts at 2609.");
        Due.same("digest() of a new object", new AnchorChains().digest(), hash(new AnchorChains(), "").longValue());

        Due.says(28, "For each value v of the following list, in order, the hash becomes 31 * hash + v, in long "
                + "arithmetic with overflow.");
        for (String rows : ROWS) {
            AnchorChains y = Due.rows(rows);
            Due.same("digest() of " + rows, y.digest(), hash(y, "").longValue());
            Due.same("more than a long holds, of " + rows, hash(y, "").bitLength() > 64 ? 1 : 0, 1);
        }
    }

    private static void digestValues() {
        Due.says(28, "The values are: count(0) to count(14); the settings 0 to 3; for each row all of its signs, then "
                + "partner of each of its places, then doubled with 0 to 2; for each anchor its properties 0 to 3; for "
                + "each turned anchor its properties 0 to 2; for each gap its properties 0 to 4; ifSet of the setting "
                + "0 as 2, and of the setting 3 as 0; ifChanged of the place 0 of the upper row, if it has one, to the "
                + "sign 0; bestLength; the bits of likeShare (as Double.doubleToLongBits); the length of the buffer "
                + "and each of its character codes.");
        String[] buffers = {"", "a", "ab/!", "~", FULL + "/" + FULL + "!!!!!~~~~~~"};
        for (String rows : ROWS) {
            for (String buffer : buffers) {
                AnchorChains x = Due.rows(rows);
                x.set(0, 2);
                x.keep(1);
                Due.type(x, buffer);
                Due.same("digest() of " + rows + " " + buffer, x.digest(), hash(x, buffer).longValue());
            }
        }
        for (int signs = 1; signs <= 48; signs++) {
            for (int like = signs > 24 ? signs - 24 : 0; like <= Math.min(24, signs / 2); like += 3) {
                digestOfShare(like, signs);
            }
        }
    }

    /** As many signs in both rows, as many pairs of like ones: the share's bits are those of the Java library. */
    private static void digestOfShare(int like, int signs) {
        String upper = "a".repeat(like) + "b".repeat(Math.min(24, signs - like) - like);
        String lower = "a".repeat(like) + "c".repeat(signs - like - upper.length());
        AnchorChains x = Due.rows(upper + "/" + lower);
        Due.same("signs", x.count(0) + x.count(1), signs);
        Due.same("pairs of like signs of " + upper + "/" + lower, x.count(10), like);
        Due.same("digest() of " + upper + "/" + lower, x.digest(), hash(x, "").longValue());
    }

    private static void digestOfAll() {
        Due.says(28, "Returns the hash.");
        AnchorChains x = Twins.busy("dabcaabdc/abcbbdabdc", "ab/!");
        long due = hash(x, "ab/!").longValue();
        Due.same("digest()", x.digest(), due);
        Due.same("digest() again", x.digest(), due);
    }

    /** From the face's own answers, in numbers without a bound. */
    private static BigInteger hash(AnchorChains x, String buffer) {
        List<Long> values = new ArrayList<>();
        for (int what = 0; what < 15; what++) {
            values.add((long) x.count(what));
        }
        for (int setting = 0; setting < 4; setting++) {
            values.add((long) x.setting(setting));
        }
        listRow(values, x, 0);
        listRow(values, x, 1);
        list(values, x.count(2), 4, x::anchor);
        list(values, x.count(3), 3, x::turned);
        list(values, x.count(5), 5, x::gap);
        values.add((long) x.ifSet(0, 2));
        values.add((long) x.ifSet(3, 0));
        if (x.count(0) > 0) {
            values.add((long) x.ifChanged(0, 0, 0));
        }
        values.add((long) x.bestLength());
        values.add(Double.doubleToLongBits(x.likeShare()));
        values.add((long) buffer.length());
        for (char code : buffer.toCharArray()) {
            values.add((long) code);
        }
        BigInteger hash = BigInteger.valueOf(2609);
        for (long value : values) {
            hash = hash.multiply(BigInteger.valueOf(31)).add(BigInteger.valueOf(value));
        }
        return hash;
    }

    private interface Look {
        int at(int number, int what);
    }

    private static void list(List<Long> values, int many, int properties, Look look) {
        for (int number = 0; number < many; number++) {
            for (int what = 0; what < properties; what++) {
                values.add((long) look.at(number, what));
            }
        }
    }

    private static void listRow(List<Long> values, AnchorChains x, int row) {
        for (int place = 0; place < x.count(row); place++) {
            values.add((long) x.sign(row, place));
        }
        for (int place = 0; place < x.count(row); place++) {
            values.add((long) x.partner(row, place));
        }
        for (int what = 0; what < 3; what++) {
            values.add((long) x.doubled(row, what));
        }
    }
}
