import java.util.ArrayDeque;
import java.util.ArrayList;
import java.util.Deque;
import java.util.HashMap;
import java.util.List;
import java.util.Map;

/** The document's calls once more, written with texts and lists of the Java library in place of the class's tables. */
public final class Model {
    private String[] rows = {"", ""};
    private int[] settings = {3, 2, 3, 4};
    private String buffer = "";
    private final String[][] snapshots = new String[2][];
    private final Deque<Object[]> saved = new ArrayDeque<>();

    /** What follows from two rows and the settings. */
    static final class View {
        final String upper;
        final String lower;
        final int[] settings;
        final List<int[]> anchors = new ArrayList<>();
        final List<int[]> turned = new ArrayList<>();
        final List<int[]> gaps = new ArrayList<>();
        final Map<Integer, Integer> up = new HashMap<>();
        final Map<Integer, Integer> down = new HashMap<>();
        final List<Integer> chain;
        final int[] stretchOf;
        int stretches = 0;
        int longest = 0;
        int cost = 0;

        View(String upper, String lower, int[] settings) {
            this.upper = upper;
            this.lower = lower;
            this.settings = settings.clone();
            int k = settings[0];
            for (int p = 0; p + k <= upper.length(); p++) {
                String word = upper.substring(p, p + k);
                String back = new StringBuilder(word).reverse().toString();
                if (times(upper, word) == 1 && times(lower, word) == 1) {
                    anchors.add(new int[] {p, lower.indexOf(word)});
                }
                if (!word.equals(back) && times(upper, word) == 1 && times(lower, back) == 1) {
                    turned.add(new int[] {p, lower.indexOf(back)});
                }
            }
            chain = longestChain();
            stretchOf = new int[turned.size()];
            findStretches();
            closeAll();
        }

        static int times(String row, String word) {
            int times = 0;
            for (int at = row.indexOf(word); at >= 0; at = row.indexOf(word, at + 1)) {
                times++;
            }
            return times;
        }

        boolean fit(int[] a, int[] b) {
            int dp = b[0] - a[0];
            int dq = b[1] - a[1];
            if (!(dp > 0 && dq > 0)) {
                return false;
            }
            return !(dp < settings[0] || dq < settings[0]) || dp == dq;
        }

        /** Lists of one length are put in order number by number. */
        private static boolean better(List<Integer> one, List<Integer> other) {
            if (one.size() != other.size()) {
                return one.size() > other.size();
            }
            for (int i = 0; i < one.size(); i++) {
                if (!one.get(i).equals(other.get(i))) {
                    return one.get(i) < other.get(i);
                }
            }
            return false;
        }

        private List<Integer> longestChain() {
            Map<Integer, List<Integer>> from = new HashMap<>();
            List<Integer> best = List.of();
            for (int i = anchors.size() - 1; i >= 0; i--) {
                List<Integer> tail = List.of();
                for (int j = i + 1; j < anchors.size(); j++) {
                    if (fit(anchors.get(i), anchors.get(j)) && better(from.get(j), tail)) {
                        tail = from.get(j);
                    }
                }
                List<Integer> whole = new ArrayList<>();
                whole.add(i);
                whole.addAll(tail);
                from.put(i, whole);
                if (better(whole, best)) {
                    best = whole;
                }
            }
            return best;
        }

        int mostUpTo(int anchor) {
            int most = 1;
            for (int i = 0; i < anchor; i++) {
                if (fit(anchors.get(i), anchors.get(anchor))) {
                    most = Math.max(most, mostUpTo(i) + 1);
                }
                if (most == anchor + 1) {
                    break;
                }
            }
            return most;
        }

        private void findStretches() {
            int start = 0;
            while (start < turned.size()) {
                int end = start + 1;
                while (end < turned.size() && turned.get(end)[1] < turned.get(end - 1)[1]) {
                    end++;
                }
                for (int i = start; i < end; i++) {
                    stretchOf[i] = stretches;
                }
                stretches++;
                longest = Math.max(longest, end - start);
                start = end;
            }
        }

        private void closeAll() {
            int k = settings[0];
            int[] last = null;
            for (int number : chain) {
                int[] word = anchors.get(number);
                for (int i = 0; i < k; i++) {
                    up.put(word[0] + i, word[1] + i);
                    down.put(word[1] + i, word[0] + i);
                }
                if (last == null) {
                    close(0, word[0], 0, word[1]);
                } else if (word[0] - last[0] >= k && (word[0] - last[0] > k || word[1] - last[1] > k)) {
                    close(last[0] + k, word[0], last[1] + k, word[1]);
                }
                last = word;
            }
            if (last == null) {
                close(0, upper.length(), 0, lower.length());
            } else {
                close(last[0] + k, upper.length(), last[1] + k, lower.length());
            }
        }

        private void close(int a, int b, int c, int d) {
            String above = upper.substring(a, b);
            String below = lower.substring(c, d);
            int band = Math.max(settings[3], Math.abs(above.length() - below.length()));
            Map<String, Integer> known = new HashMap<>();
            int least = least(above, below, band, known);
            gaps.add(new int[] {a, b - a, c, d - c, least});
            cost += least;
            int m = above.length();
            int n = below.length();
            while (m > 0 && n > 0) {
                int here = least(above.substring(0, m), below.substring(0, n), band, known);
                int pair = above.charAt(m - 1) == below.charAt(n - 1) ? 0 : settings[1];
                if (least(above.substring(0, m - 1), below.substring(0, n - 1), band, known) + pair == here) {
                    m--;
                    n--;
                    up.put(a + m, c + n);
                    down.put(c + n, a + m);
                } else if (least(above.substring(0, m - 1), below.substring(0, n), band, known) + settings[2] == here) {
                    m--;
                } else {
                    n--;
                }
            }
        }

        private int least(String above, String below, int band, Map<String, Integer> known) {
            int m = above.length();
            int n = below.length();
            if (Math.abs(m - n) > band) {
                return 9999;
            }
            if (m == 0 || n == 0) {
                return settings[2] * (m + n);
            }
            String key = m + "," + n;
            Integer found = known.get(key);
            if (found == null) {
                String upperLess = above.substring(0, m - 1);
                String lowerLess = below.substring(0, n - 1);
                int pair = above.charAt(m - 1) == below.charAt(n - 1) ? 0 : settings[1];
                found = Math.min(least(upperLess, lowerLess, band, known) + pair, settings[2]
                        + Math.min(least(upperLess, below, band, known), least(above, lowerLess, band, known)));
                known.put(key, found);
            }
            return found;
        }

        int free() {
            return least(upper, lower, 99, new HashMap<>());
        }

        int like() {
            int like = 0;
            for (Map.Entry<Integer, Integer> pair : up.entrySet()) {
                like += upper.charAt(pair.getKey()) == lower.charAt(pair.getValue()) ? 1 : 0;
            }
            return like;
        }
    }

    private View view() {
        return new View(rows[0], rows[1], settings);
    }

    private void save() {
        saved.addLast(new Object[] {rows.clone(), settings.clone()});
        if (saved.size() > 6) {
            saved.removeFirst();
        }
    }

    private static void range(boolean fine) {
        if (!fine) {
            throw new IndexOutOfBoundsException();
        }
    }

    private static void argument(boolean fine) {
        if (!fine) {
            throw new IllegalArgumentException();
        }
    }

    private static void state(boolean fine) {
        if (!fine) {
            throw new IllegalStateException();
        }
    }

    private boolean place(int row, int place) {
        return (row == 0 || row == 1) && place >= 0 && place < rows[row].length();
    }

    private static String letter(int sign) {
        return "abcd".substring(sign, sign + 1);
    }

    public int put(int row, int place, int sign) {
        range((row == 0 || row == 1) && place >= 0 && place <= rows[row].length());
        argument(sign >= 0 && sign <= 3);
        state(rows[row].length() < 24);
        save();
        rows[row] = rows[row].substring(0, place) + letter(sign) + rows[row].substring(place);
        return rows[row].length();
    }

    public int take(int row, int place, int many) {
        range(place(row, place));
        argument(many >= 1 && many <= 24 && many <= rows[row].length() - place);
        save();
        rows[row] = rows[row].substring(0, place) + rows[row].substring(place + many);
        return rows[row].length();
    }

    private static String changed(String row, int place, int sign) {
        return row.substring(0, place) + letter(sign) + row.substring(place + 1);
    }

    public int change(int row, int place, int sign) {
        range(place(row, place));
        argument(sign >= 0 && sign <= 3);
        save();
        int before = rows[row].charAt(place) - 'a';
        rows[row] = changed(rows[row], place, sign);
        return before;
    }

    public int turn(int row, int from, int to) {
        range(place(row, from) && place(row, to));
        argument(to >= from);
        save();
        String before = rows[row];
        String back = new StringBuilder(before.substring(from, to + 1)).reverse().toString();
        rows[row] = before.substring(0, from) + back + before.substring(to + 1);
        int others = 0;
        for (int i = 0; i < before.length(); i++) {
            others += before.charAt(i) != rows[row].charAt(i) ? 1 : 0;
        }
        return others;
    }

    public int copy(int row, int from, int to, int goal) {
        range(place(row, from) && place(row, to) && (goal == 0 || goal == 1));
        argument(to >= from);
        String more = rows[row].substring(from, to + 1);
        state(rows[goal].length() + more.length() <= 24);
        save();
        rows[goal] += more;
        return rows[goal].length();
    }

    public int exchange() {
        save();
        rows = new String[] {rows[1], rows[0]};
        return view().anchors.size();
    }

    private static boolean can(int setting, int value) {
        int[][] ranges = {{2, 5}, {0, 9}, {0, 9}, {0, 24}};
        return value >= ranges[setting][0] && value <= ranges[setting][1];
    }

    public int set(int setting, int value) {
        range(setting >= 0 && setting <= 3);
        argument(can(setting, value));
        save();
        int before = settings[setting];
        settings[setting] = value;
        return before;
    }

    public int append(int code) {
        argument(code >= 33 && code <= 126);
        state(buffer.length() < 60);
        buffer += (char) code;
        return buffer.length();
    }

    public int clearBuffer() {
        int length = buffer.length();
        buffer = "";
        return length;
    }

    private static String spread(String half) {
        StringBuilder row = new StringBuilder();
        for (char c : half.toCharArray()) {
            if (c >= 'a') {
                row.append(c);
            } else {
                row.append(row.substring(row.length() - 1).repeat(c - '1'));
            }
        }
        return row.toString();
    }

    private static boolean begins(String text) {
        if (!text.matches("([a-d][2-9]?)*(/([a-d][2-9]?)*)?")) {
            return false;
        }
        for (String half : text.split("/", -1)) {
            if (spread(half).length() > 24) {
                return false;
            }
        }
        return true;
    }

    public int firstError() {
        for (int i = 0; i < buffer.length(); i++) {
            if (!begins(buffer.substring(0, i + 1))) {
                return i;
            }
        }
        return buffer.length();
    }

    public int read() {
        argument(begins(buffer) && buffer.contains("/"));
        save();
        String[] halves = buffer.split("/", -1);
        rows = new String[] {spread(halves[0]), spread(halves[1])};
        buffer = "";
        return view().anchors.size();
    }

    public int keep(int snapshot) {
        range(snapshot == 0 || snapshot == 1);
        snapshots[snapshot] = rows.clone();
        return rows[0].length() + rows[1].length();
    }

    public int restore(int snapshot) {
        range(snapshot == 0 || snapshot == 1);
        state(snapshots[snapshot] != null);
        save();
        rows = snapshots[snapshot].clone();
        return rows[0].length() + rows[1].length();
    }

    public int undo() {
        state(!saved.isEmpty());
        Object[] last = saved.removeLast();
        rows = (String[]) last[0];
        settings = (int[]) last[1];
        return saved.size();
    }

    public int sign(int row, int place) {
        range(place(row, place));
        return rows[row].charAt(place) - 'a';
    }

    public int anchor(int anchor, int what) {
        return anchor(view(), anchor, what);
    }

    private static int anchor(View view, int anchor, int what) {
        range(anchor >= 0 && anchor < view.anchors.size());
        argument(what >= 0 && what <= 3);
        if (what < 2) {
            return view.anchors.get(anchor)[what];
        }
        return what == 2 ? view.chain.indexOf(anchor) : view.mostUpTo(anchor);
    }

    public int turned(int anchor, int what) {
        return turned(view(), anchor, what);
    }

    private static int turned(View view, int anchor, int what) {
        range(anchor >= 0 && anchor < view.turned.size());
        argument(what >= 0 && what <= 2);
        return what == 2 ? view.stretchOf[anchor] : view.turned.get(anchor)[what];
    }

    public int gap(int gap, int what) {
        argument(gap >= 0 && what >= 0 && what <= 4);
        View view = view();
        return gap < view.gaps.size() ? view.gaps.get(gap)[what] : -1;
    }

    public int partner(int row, int place) {
        range(place(row, place));
        View view = view();
        return (row == 0 ? view.up : view.down).getOrDefault(place, -1);
    }

    public int doubled(int row, int what) {
        range(row == 0 || row == 1);
        argument(what >= 0 && what <= 2);
        String all = rows[row];
        for (int length = all.length() - 1; length > 0; length--) {
            for (int place = 0; place + length <= all.length(); place++) {
                int times = View.times(all, all.substring(place, place + length));
                if (times > 1) {
                    return what == 0 ? length : what == 1 ? place : times;
                }
            }
        }
        return what == 0 ? 0 : -1;
    }

    public int count(int what) {
        argument(what >= 0 && what <= 14);
        return count(view(), what);
    }

    private int count(View view, int what) {
        int taken = (snapshots[0] != null ? 1 : 0) + (snapshots[1] != null ? 1 : 0);
        int[] all = {rows[0].length(), rows[1].length(), view.anchors.size(), view.turned.size(), view.chain.size(),
            view.gaps.size(), view.cost, view.free(), view.stretches, view.longest, view.like(),
            rows[0].length() - view.up.size(), rows[1].length() - view.down.size(), taken, saved.size()};
        return all[what];
    }

    public int setting(int setting) {
        range(setting >= 0 && setting <= 3);
        return settings[setting];
    }

    public int ifSet(int setting, int value) {
        range(setting >= 0 && setting <= 3);
        argument(can(setting, value));
        int[] other = settings.clone();
        other[setting] = value;
        return new View(rows[0], rows[1], other).cost;
    }

    public int ifChanged(int row, int place, int sign) {
        range(place(row, place));
        argument(sign >= 0 && sign <= 3);
        String other = changed(rows[row], place, sign);
        return new View(row == 0 ? other : rows[0], row == 1 ? other : rows[1], settings).cost;
    }

    public int bestLength() {
        int best = 2;
        for (int length = 3; length <= 5; length++) {
            if (ifSet(0, length) <= ifSet(0, best)) {
                best = length;
            }
        }
        return best;
    }

    public double likeShare() {
        int all = rows[0].length() + rows[1].length();
        return all == 0 ? 1.0 : view().like() * 2.0 / all;
    }

    private void listRow(List<Long> values, View view, int row) {
        for (int place = 0; place < rows[row].length(); place++) {
            values.add((long) sign(row, place));
        }
        for (int place = 0; place < rows[row].length(); place++) {
            values.add((long) (row == 0 ? view.up : view.down).getOrDefault(place, -1));
        }
        for (int what = 0; what < 3; what++) {
            values.add((long) doubled(row, what));
        }
    }

    private void listFound(List<Long> values, View view) {
        for (int anchor = 0; anchor < view.anchors.size(); anchor++) {
            for (int what = 0; what < 4; what++) {
                values.add((long) anchor(view, anchor, what));
            }
        }
        for (int anchor = 0; anchor < view.turned.size(); anchor++) {
            for (int what = 0; what < 3; what++) {
                values.add((long) turned(view, anchor, what));
            }
        }
        for (int[] gap : view.gaps) {
            for (int value : gap) {
                values.add((long) value);
            }
        }
    }

    public long digest() {
        List<Long> values = new ArrayList<>();
        View view = view();
        for (int what = 0; what < 15; what++) {
            values.add((long) count(view, what));
        }
        for (int value : settings) {
            values.add((long) value);
        }
        listRow(values, view, 0);
        listRow(values, view, 1);
        listFound(values, view);
        values.add((long) ifSet(0, 2));
        values.add((long) ifSet(3, 0));
        if (!rows[0].isEmpty()) {
            values.add((long) ifChanged(0, 0, 0));
        }
        values.add((long) bestLength());
        values.add(Double.doubleToLongBits(likeShare()));
        values.add((long) buffer.length());
        for (char code : buffer.toCharArray()) {
            values.add((long) code);
        }
        long hash = 2609;
        for (long value : values) {
            hash = 31 * hash + value;
        }
        return hash;
    }
}
