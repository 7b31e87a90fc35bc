import java.util.ArrayList;
import java.util.List;

/** All ways to line up two short rows are tried: the cost is the least one, and the way is the one that is told. */
public final class SmallGapsTest {
    private static final int MOST = 4;
    private static final int[][] PRICES = {{2, 3, 4}, {2, 3, 0}, {2, 3, 1}, {0, 3, 0}, {3, 1, 2}, {2, 1, 4}, {9, 0, 1},
        {0, 0, 4}, {1, 1, 1}, {9, 1, 0}};

    private final String upper;
    private final String lower;
    private final int[] prices;
    private final int band;
    private int least = Integer.MAX_VALUE;
    private String told = "";

    private SmallGapsTest(String upper, String lower, int[] prices, int band) {
        this.upper = upper;
        this.lower = lower;
        this.prices = prices;
        this.band = band;
    }

    public static void main(String[] args) {
        List<String> rows = new ArrayList<>(List.of(""));
        for (int i = 0; rows.get(i).length() < MOST; i++) {
            rows.add(rows.get(i) + "a");
            rows.add(rows.get(i) + "b");
        }
        for (int[] prices : PRICES) {
            for (int i = 0; i < rows.size(); i++) {
                for (int j = 0; j < rows.size(); j++) {
                    compare(rows.get(i), rows.get(j), prices);
                }
            }
        }
        Due.end();
    }

    private static void compare(String upper, String lower, int[] prices) {
        AnchorChains x = new AnchorChains();
        x.set(0, 5);
        for (int i = 0; i < 3; i++) {
            x.set(i + 1, prices[i]);
        }
        Due.type(x, upper + "/" + lower);
        x.read();
        int difference = Math.abs(upper.length() - lower.length());
        SmallGapsTest all = new SmallGapsTest(upper, lower, prices, Math.max(prices[2], difference));
        all.tryAll(0, 0, 0, "");
        SmallGapsTest free = new SmallGapsTest(upper, lower, prices, 99);
        free.tryAll(0, 0, 0, "");
        String call = upper + "/" + lower + " " + prices[0] + " " + prices[1] + " " + prices[2];
        Due.same(call + " cost", x.count(6), all.least);
        Due.same(call + " gap(0, 4)", x.gap(0, 4), all.least);
        Due.same(call + " free cost", x.count(7), free.least);
        Due.same(call + " way", way(x), all.pairsOfTold());
    }

    /** A way is its steps from the end on; pairing (A) comes ahead of leaving out above (B) and below (C). */
    private void tryAll(int above, int below, int cost, String way) {
        if (Math.abs(above - below) > band) {
            return;
        }
        if (above == upper.length() && below == lower.length()) {
            if (cost < least || (cost == least && way.compareTo(told) < 0)) {
                least = cost;
                told = way;
            }
            return;
        }
        if (above < upper.length() && below < lower.length()) {
            int price = upper.charAt(above) == lower.charAt(below) ? 0 : prices[0];
            tryAll(above + 1, below + 1, cost + price, "A" + way);
        }
        if (above < upper.length()) {
            tryAll(above + 1, below, cost + prices[1], "B" + way);
        }
        if (below < lower.length()) {
            tryAll(above, below + 1, cost + prices[1], "C" + way);
        }
    }

    private String pairsOfTold() {
        String[] partners = {"", ""};
        int above = 0;
        int below = 0;
        for (int i = told.length() - 1; i >= 0; i--) {
            char step = told.charAt(i);
            partners[0] += step == 'A' ? below + "," : step == 'B' ? "-1," : "";
            partners[1] += step == 'A' ? above + "," : step == 'C' ? "-1," : "";
            above += step == 'C' ? 0 : 1;
            below += step == 'B' ? 0 : 1;
        }
        return partners[0] + "/" + partners[1];
    }

    private static String way(AnchorChains x) {
        StringBuilder partners = new StringBuilder();
        for (int row = 0; row < 2; row++) {
            for (int place = 0; place < x.count(row); place++) {
                partners.append(x.partner(row, place)).append(',');
            }
            partners.append(row == 0 ? "/" : "");
        }
        return partners.toString();
    }
}
