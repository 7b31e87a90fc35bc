import java.util.ArrayList;
import java.util.LinkedHashSet;
import java.util.List;
import java.util.Set;

/** What the tests share: comparing answers with those that are due, and rows made from texts. */
final class Due {
    private static final Set<String> said = new LinkedHashSet<>();
    private static final List<String> untried = new ArrayList<>();
    private static String sentence = "";
    private static int before = 0;
    private static int right = 0;
    private static int wrong = 0;

    private Due() {
    }

    private static void tell(String call, String got, String want) {
        if (got.equals(want)) {
            right++;
        } else {
            wrong++;
            System.out.println(sentence + call + " answered " + got + ", due is " + want);
        }
    }

    /** From here on the comparisons are those of a sentence of a promise, or of the Terms (0). */
    static void says(int promise, String words) {
        endSentence();
        said.add(promise + ": " + words);
        sentence = "[" + promise + ": " + words + "] ";
        before = right + wrong;
    }

    static void endSentence() {
        if (!sentence.isEmpty() && right + wrong == before) {
            untried.add(sentence);
        }
        sentence = "";
    }

    static Set<String> said() {
        return said;
    }

    static List<String> untried() {
        return untried;
    }

    static void same(String call, long got, long want) {
        tell(call, Long.toString(got), Long.toString(want));
    }

    static void same(String call, double got, double want) {
        tell(call, Double.toString(got), Double.toString(want));
    }

    static void same(String call, String got, String want) {
        tell(call, got, want);
    }

    /** The class itself is compared, as what the machine throws is of classes below the named ones. Null is nothing. */
    static void fails(String call, Class<? extends RuntimeException> due, Runnable run) {
        String got = "nothing";
        try {
            run.run();
        } catch (RuntimeException e) {
            got = e.getClass().getName();
        }
        tell(call + " throws", got, due == null ? "nothing" : due.getName());
    }

    static void failsAndKeeps(AnchorChains x, String call, Class<? extends RuntimeException> due, Runnable run) {
        long before = x.digest();
        fails(call, due, run);
        same("digest() after " + call, x.digest(), before);
    }

    static void type(AnchorChains x, String text) {
        for (int i = 0; i < text.length(); i++) {
            x.append(text.charAt(i));
        }
    }

    static AnchorChains rows(String text) {
        AnchorChains x = new AnchorChains();
        type(x, text);
        x.read();
        return x;
    }

    static String text(AnchorChains x) {
        StringBuilder text = new StringBuilder();
        for (int row = 0; row < 2; row++) {
            for (int place = 0; place < x.count(row); place++) {
                text.append((char) ('a' + x.sign(row, place)));
            }
            text.append(row == 0 ? "/" : "");
        }
        return text.toString();
    }

    static void end() {
        System.out.println(right + " answers right, " + wrong + " wrong");
        if (wrong != 0 || right == 0) {
            System.exit(1);
        }
    }
}
