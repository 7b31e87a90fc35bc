import java.util.ArrayList;
import java.util.List;

/** All chains of rows with few anchors are tried: the longest one, and of several the one of the lowest numbers. */
public final class SmallChainsTest {
    private static final int PAIRS_OF_ROWS = 8000;
    private static final int MOST_SIGNS = 14;

    private static long seed = 11;

    private final List<int[]> anchors = new ArrayList<>();
    private final int wordLength;
    private List<Integer> best = List.of();
    private int[] mostUpTo = {};

    private SmallChainsTest(int wordLength) {
        this.wordLength = wordLength;
    }

    private static int below(int bound) {
        seed = seed * 6364136223846793005L + 1442695040888963407L;
        return (int) ((seed >>> 33) % bound);
    }

    public static void main(String[] args) {
        int several = 0;
        for (int i = 0; i < PAIRS_OF_ROWS; i++) {
            several += compare(row(2 + below(3)), 2 + i % 4);
        }
        Due.same("rows with anchors beside the chain", several > 500 ? 1 : 0, 1);
        Due.end();
    }

    private static String row(int kinds) {
        StringBuilder row = new StringBuilder();
        for (int left = below(MOST_SIGNS + 1); left > 0; left--) {
            row.append((char) ('a' + below(kinds)));
        }
        return row.toString();
    }

    /** Parts of the upper row in another order, so that anchors cross and overlap. */
    private static String shuffled(String row) {
        StringBuilder other = new StringBuilder(row);
        for (int left = below(4); left > 0 && other.length() > 0; left--) {
            int from = below(other.length());
            int to = from + 1 + below(other.length() - from);
            String part = other.substring(from, to);
            other.insert(below(other.length() + 1), part);
            int cut = below(other.length());
            other.delete(cut, cut + below(part.length() + 1));
        }
        other.setLength(Math.min(other.length(), 24));
        return other.toString();
    }

    private static int compare(String upper, int wordLength) {
        String rows = upper + "/" + shuffled(upper);
        AnchorChains x = Due.rows(rows);
        x.set(0, wordLength);
        SmallChainsTest all = new SmallChainsTest(wordLength);
        all.findAnchors(upper, rows.substring(upper.length() + 1));
        all.tryAll(new ArrayList<>(), 0);
        String told = rows + " by " + wordLength + ": ";
        Due.same(told + "anchors", x.count(2), all.anchors.size());
        Due.same(told + "anchors of the chain", x.count(4), all.best.size());
        for (int anchor = 0; anchor < x.count(2) && anchor < all.anchors.size(); anchor++) {
            Due.same(told + "anchor(" + anchor + ", 0)", x.anchor(anchor, 0), all.anchors.get(anchor)[0]);
            Due.same(told + "anchor(" + anchor + ", 1)", x.anchor(anchor, 1), all.anchors.get(anchor)[1]);
            Due.same(told + "anchor(" + anchor + ", 2)", x.anchor(anchor, 2), all.best.indexOf(anchor));
            Due.same(told + "anchor(" + anchor + ", 3)", x.anchor(anchor, 3), all.mostUpTo[anchor]);
        }
        return all.anchors.size() > 1 && all.best.size() < all.anchors.size() ? 1 : 0;
    }

    private void findAnchors(String upper, String lower) {
        for (int place = 0; place + wordLength <= upper.length(); place++) {
            String word = upper.substring(place, place + wordLength);
            boolean onceAbove = upper.indexOf(word) == place && upper.lastIndexOf(word) == place;
            int below = lower.indexOf(word);
            if (onceAbove && below >= 0 && lower.lastIndexOf(word) == below) {
                anchors.add(new int[] {place, below});
            }
        }
        mostUpTo = new int[anchors.size()];
    }

    private boolean fit(int[] first, int[] second) {
        int above = second[0] - first[0];
        int below = second[1] - first[1];
        return above > 0 && below > 0 && (above == below || Math.min(above, below) >= wordLength);
    }

    /** Chains come up in the order of their numbers, so the first one of a length is the one that is told. */
    private void tryAll(List<Integer> chain, int from) {
        if (chain.size() > best.size()) {
            best = new ArrayList<>(chain);
        }
        for (int next = from; next < anchors.size(); next++) {
            if (chain.isEmpty() || fit(anchors.get(chain.get(chain.size() - 1)), anchors.get(next))) {
                chain.add(next);
                mostUpTo[next] = Math.max(mostUpTo[next], chain.size());
                tryAll(chain, next + 1);
                chain.remove(chain.size() - 1);
            }
        }
    }
}
