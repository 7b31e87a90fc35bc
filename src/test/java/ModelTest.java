import java.lang.reflect.InvocationTargetException;
import java.lang.reflect.Method;
import java.util.ArrayList;
import java.util.Arrays;
import java.util.List;

/** Long runs of calls, all promises in turn: each answer and each exception is compared with the model's. */
public final class ModelTest {
    private static final int RUNS = 250;
    private static final int CALLS = 512;
    private static final int[] BAD = {-1, Integer.MIN_VALUE, Integer.MAX_VALUE, 2, 4, 24, 25};

    private static long seed = 20;

    /** A row of numbers that is the same in each run of this test. */
    private static int below(int bound) {
        seed = seed * 6364136223846793005L + 1442695040888963407L;
        return (int) ((seed >>> 33) % bound);
    }

    private final AnchorChains real = new AnchorChains();
    private final Model model = new Model();
    private int calls = 0;

    public static void main(String[] args) {
        for (int run = 0; run < RUNS; run++) {
            new ModelTest().run(run);
        }
        Due.end();
    }

    private void run(int run) {
        while (calls < CALLS - 70) {
            int kind = below(100);
            if (kind < 6) {
                type(pairOfRows());
                both(run, "read");
            } else if (kind < 8) {
                type(spoilt(pairOfRows()));
                both(run, "firstError");
                both(run, "read");
                both(run, "clearBuffer");
            } else {
                anyCall(run);
            }
            if (below(8) == 0) {
                both(run, "digest");
            }
        }
        both(run, "digest");
    }

    private void type(String text) {
        for (int i = 0; i < text.length(); i++) {
            both(-1, "append", text.charAt(i));
        }
    }

    private static String signs(int most, int kinds) {
        StringBuilder row = new StringBuilder();
        for (int left = below(most + 1); left > 0; left--) {
            row.append((char) ('a' + below(kinds)));
        }
        return row.toString();
    }

    /** The lower row is made of the upper one, as rows without likeness have few anchors. */
    private static String pairOfRows() {
        String upper = signs(24, 2 + below(3));
        StringBuilder lower = new StringBuilder(upper);
        for (int left = below(6); left > 0 && lower.length() > 2; left--) {
            int from = below(lower.length());
            int to = from + 1 + below(lower.length() - from);
            String part = lower.substring(from, to);
            switch (below(5)) {
                case 0 -> lower.replace(from, to, new StringBuilder(part).reverse().toString());
                case 1 -> lower.setCharAt(from, (char) ('a' + below(4)));
                case 2 -> lower.insert(from, signs(3, 4));
                case 3 -> lower.delete(from, Math.min(to, from + 3));
                default -> lower.delete(from, to).insert(below(lower.length() + 1), part);
            }
        }
        lower.setLength(Math.min(lower.length(), 24));
        return packed(upper) + "/" + packed(lower.toString());
    }

    private static String packed(String row) {
        StringBuilder text = new StringBuilder();
        for (int i = 0; i < row.length();) {
            int same = 1;
            while (i + same < row.length() && same < 9 && row.charAt(i + same) == row.charAt(i)) {
                same++;
            }
            text.append(row.charAt(i));
            if (same > 1 && below(2) == 0) {
                text.append(same);
                i += same;
            } else {
                i++;
            }
        }
        return text.toString();
    }

    private static String spoilt(String text) {
        StringBuilder other = new StringBuilder(text);
        String codes = "abcd/0123456789eA";
        other.insert(below(other.length() + 1), codes.charAt(below(codes.length())));
        return other.toString();
    }

    private int row() {
        return below(15) == 0 ? bad() : below(2);
    }

    private static int bad() {
        return BAD[below(BAD.length)];
    }

    private int place(int row) {
        int size = row == 0 || row == 1 ? model.count(row) : 24;
        return below(15) == 0 ? bad() : below(size + 1);
    }

    private static int within(int low, int high) {
        return below(15) == 0 ? bad() : low + below(high - low + 1);
    }

    private void anyCall(int run) {
        int row = row();
        int setting = within(0, 3);
        int value = setting == 0 ? within(2, 5) : setting == 3 ? within(0, 24) : within(0, 9);
        switch (below(27)) {
            case 0 -> both(run, "put", row, place(row), within(0, 3));
            case 1 -> both(run, "take", row, place(row), within(1, 4));
            case 2 -> both(run, "change", row, place(row), within(0, 3));
            case 3 -> both(run, "turn", row, place(row), place(row));
            case 4 -> both(run, "copy", row, place(row), place(row), row());
            case 5 -> both(run, "exchange");
            case 6 -> both(run, "set", setting, value);
            case 7 -> both(run, "append", below(9) == 0 ? 30 + below(100) : "abcd/234".charAt(below(8)));
            case 8 -> both(run, "clearBuffer");
            case 9 -> both(run, "firstError");
            case 10 -> both(run, "read");
            case 11 -> both(run, "keep", within(0, 1));
            case 12 -> both(run, "restore", within(0, 1));
            case 13 -> both(run, "undo");
            case 14 -> both(run, "sign", row, place(row));
            case 15 -> both(run, "anchor", within(0, 12), within(0, 3));
            case 16 -> both(run, "turned", within(0, 6), within(0, 2));
            case 17 -> both(run, "gap", within(0, 5), within(0, 4));
            case 18 -> both(run, "partner", row, place(row));
            case 19 -> both(run, "doubled", row, within(0, 2));
            case 20 -> both(run, "count", within(0, 14));
            case 21 -> both(run, "setting", setting);
            case 22 -> both(run, "ifSet", setting, value);
            case 23 -> both(run, "ifChanged", row, place(row), within(0, 3));
            case 24 -> both(run, "bestLength");
            case 25 -> both(run, "likeShare");
            default -> both(run, "digest");
        }
    }

    private void both(int run, String name, int... arguments) {
        calls++;
        String told = "run " + run + ", call " + calls + ": " + name + Arrays.toString(arguments);
        Due.same(told, answer(real, name, arguments), answer(model, name, arguments));
    }

    private static String answer(Object object, String name, int[] arguments) {
        Class<?>[] types = new Class<?>[arguments.length];
        Arrays.fill(types, int.class);
        List<Object> values = new ArrayList<>();
        for (int argument : arguments) {
            values.add(argument);
        }
        try {
            Method method = object.getClass().getMethod(name, types);
            return String.valueOf(method.invoke(object, values.toArray()));
        } catch (InvocationTargetException e) {
            return "throws." + e.getCause().getClass().getName();
        } catch (ReflectiveOperationException e) {
            return "no such call in " + object.getClass();
        }
    }
}
