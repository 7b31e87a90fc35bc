/** Promises 24 to 28: what the cost would be, the best length of words, the share of like signs, and the hash. */
public final class WouldBeTest {
    private static final Class<IndexOutOfBoundsException> RANGE = IndexOutOfBoundsException.class;
    private static final Class<IllegalArgumentException> ARGUMENT = IllegalArgumentException.class;
    private static final int[] FAR = {-1, 2, 24, 25, Integer.MIN_VALUE, Integer.MAX_VALUE};

    public static void main(String[] args) {
        ifSet();
        ifSetWrong();
        ifChanged();
        ifChangedWrong();
        bestLength();
        likeShare();
        digestOfEmptyRows();
        digestOfRows();
        Due.end();
    }

    private static void ifSet() {
        AnchorChains x = Due.rows("abcd/cdab");
        long before = x.digest();
        Due.same("24: ifSet(0, 2)", x.ifSet(0, 2), 12);
        Due.same("24: ifSet(0, 3)", x.ifSet(0, 3), 8);
        Due.same("24: ifSet(0, 5)", x.ifSet(0, 5), 8);
        Due.same("24: ifSet(1, 0)", x.ifSet(1, 0), 0);
        Due.same("24: ifSet(1, 9)", x.ifSet(1, 9), 12);
        Due.same("24: ifSet(2, 0)", x.ifSet(2, 0), 0);
        Due.same("24: ifSet(2, 1)", x.ifSet(2, 1), 4);
        Due.same("24: ifSet(2, 9)", x.ifSet(2, 9), 8);
        Due.same("24: ifSet(3, 24)", x.ifSet(3, 24), 8);
        Due.same("24: nothing is changed", x.digest(), before);
        AnchorChains y = Due.rows("abab/baba");
        y.set(1, 9);
        y.set(0, 5);
        Due.same("24: ifSet(3, 0)", y.ifSet(3, 0), 36);
        Due.same("24: ifSet(3, 1)", y.ifSet(3, 1), 6);
        Due.same("24: ifSet(1, 2)", y.ifSet(1, 2), 6);
        Due.same("24: the setting stays", y.setting(1), 9);
        Due.same("24: saved", y.count(14), 3);
        for (int setting = 0; setting < 4; setting++) {
            Due.same("24: ifSet to what it is", y.ifSet(setting, y.setting(setting)), y.count(6));
        }
    }

    private static void ifSetWrong() {
        AnchorChains x = Due.rows("abc/abd");
        int[] low = {2, 0, 0, 0};
        int[] high = {5, 9, 9, 24};
        for (int i = 0; i < 4; i++) {
            int setting = i;
            Due.failsAndKeeps(x, "24: ifSet too low", ARGUMENT, () -> x.ifSet(setting, low[setting] - 1));
            Due.failsAndKeeps(x, "24: ifSet too high", ARGUMENT, () -> x.ifSet(setting, high[setting] + 1));
            Due.failsAndKeeps(x, "24: ifSet far", ARGUMENT, () -> x.ifSet(setting, Integer.MIN_VALUE));
        }
        for (int setting : new int[] {-1, 4, Integer.MIN_VALUE, Integer.MAX_VALUE}) {
            Due.failsAndKeeps(x, "24: ifSet setting " + setting, RANGE, () -> x.ifSet(setting, 3));
            Due.failsAndKeeps(x, "24: ifSet setting and value " + setting, RANGE, () -> x.ifSet(setting, 99));
        }
    }

    private static void ifChanged() {
        AnchorChains x = Due.rows("abcd/abcd");
        long before = x.digest();
        Due.same("25: to the same", x.ifChanged(0, 0, 0), 0);
        Due.same("25: the first one", x.ifChanged(0, 0, 1), 2);
        Due.same("25: the last one below", x.ifChanged(1, 3, 0), 2);
        Due.same("25: nothing is changed", x.digest(), before);
        Due.same("25: rows", Due.text(x), "abcd/abcd");
        AnchorChains y = Due.rows("ab/");
        Due.same("25: an empty lower row", y.ifChanged(0, 1, 3), 6);
        y.set(2, 5);
        Due.same("25: with the settings", y.ifChanged(0, 1, 3), 10);
        Due.same("25: saved", y.count(14), 2);
    }

    private static void ifChangedWrong() {
        AnchorChains x = Due.rows("abc/");
        for (int far : FAR) {
            Due.failsAndKeeps(x, "25: ifChanged row " + far, RANGE, () -> x.ifChanged(far, 0, 9));
        }
        Due.failsAndKeeps(x, "25: ifChanged(0, 3, 0)", RANGE, () -> x.ifChanged(0, 3, 0));
        Due.failsAndKeeps(x, "25: ifChanged(0, -1, 0)", RANGE, () -> x.ifChanged(0, -1, 0));
        Due.failsAndKeeps(x, "25: ifChanged(0, 3, 4)", RANGE, () -> x.ifChanged(0, 3, 4));
        Due.failsAndKeeps(x, "25: ifChanged(1, 0, 0)", RANGE, () -> x.ifChanged(1, 0, 0));
        Due.failsAndKeeps(x, "25: ifChanged(0, 0, 4)", ARGUMENT, () -> x.ifChanged(0, 0, 4));
        Due.failsAndKeeps(x, "25: ifChanged(0, 0, -1)", ARGUMENT, () -> x.ifChanged(0, 0, -1));
    }

    private static void bestLength() {
        Due.same("26: of lengths with the same cost", new AnchorChains().bestLength(), 5);
        AnchorChains x = Due.rows("abcd/cdab");
        x.set(0, 2);
        Due.same("26: not the one that is set", x.bestLength(), 5);
        Due.same("26: the setting stays", x.setting(0), 2);
        String shifted = "abcdbbbbb/cccccabcd";
        AnchorChains y = Due.rows(shifted);
        y.set(3, 0);
        y.set(1, 9);
        Due.same("26: a word of four saves something", y.ifSet(0, 5) > y.ifSet(0, 4) ? 1 : 0, 1);
        Due.same("26: the greatest of the best", y.bestLength(), 4);
        Due.same("26: nothing is changed", Due.text(y), shifted);
    }

    private static void likeShare() {
        Due.same("27: empty rows", new AnchorChains().likeShare(), 1.0);
        Due.same("27: nothing below", Due.rows("abc/").likeShare(), 0.0);
        Due.same("27: like rows", Due.rows("abc/abc").likeShare(), 1.0);
        Due.same("27: a third", Due.rows("abc/add").likeShare(), 2.0 / 6);
        Due.same("27: unlike rows", Due.rows("aaa/bbb").likeShare(), 0.0);
        Due.same("27: two of nine", Due.rows("dabc/abcbb").likeShare(), 6.0 / 9);
        Due.same("27: one of many", Due.rows("a9a9a6/b9b9b5a").likeShare(), 2.0 / 48);
    }

    private static long fold(long start, long... values) {
        long hash = start;
        for (long value : values) {
            hash = 31 * hash + value;
        }
        return hash;
    }

    private static void digestOfEmptyRows() {
        AnchorChains x = new AnchorChains();
        long looks = fold(2609, 0, 0, 0, 0, 0, 1, 0, 0, 0, 0, 0, 0, 0, 0, 0, 3, 2, 3, 4, 0, -1, -1, 0, -1, -1,
                0, 0, 0, 0, 0, 0, 0, 5, Double.doubleToLongBits(1.0));
        Due.same("28: digest()", x.digest(), fold(looks, 0));
        Due.type(x, "a!~");
        Due.same("28: digest() with a buffer", x.digest(), fold(looks, 3, 'a', '!', '~'));
    }

    private static void digestOfRows() {
        AnchorChains x = Due.rows("dabc/abcb2");
        long hash = fold(2609, 4, 5, 1, 0, 1, 2, 9, 9, 0, 0, 3, 1, 2, 0, 1, 3, 2, 3, 4);
        hash = fold(hash, 3, 0, 1, 2, -1, 0, 1, 2, 0, -1, -1);
        hash = fold(hash, 0, 1, 2, 1, 1, 1, 2, 3, -1, -1, 1, 1, 3);
        hash = fold(hash, 1, 0, 0, 1);
        hash = fold(hash, 0, 1, 0, 0, 3, 4, 0, 3, 2, 6);
        hash = fold(hash, x.ifSet(0, 2), x.ifSet(3, 0), x.ifChanged(0, 0, 0), x.bestLength());
        Due.same("28: digest() of rows", x.digest(), fold(hash, Double.doubleToLongBits(6.0 / 9), 0));
        for (int like = 0; like <= 24; like++) {
            AnchorChains y = new AnchorChains();
            Model model = new Model();
            String text = signs('a', 24) + "/" + signs('a', like) + signs('b', 24 - like);
            for (int i = 0; i < text.length(); i++) {
                y.append(text.charAt(i));
                model.append(text.charAt(i));
            }
            y.read();
            model.read();
            Due.same("28: digest() with a share of " + like, y.digest(), model.digest());
        }
    }

    private static String signs(char sign, int many) {
        return String.valueOf(sign).repeat(many);
    }
}
