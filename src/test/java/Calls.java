import java.lang.reflect.InvocationTargetException;
import java.lang.reflect.Method;
import java.util.Arrays;
import java.util.Comparator;
import java.util.Random;

/** Every call of the document's face, by its number; and arguments, TEXTS to try it with. */
final class Calls {
    private static final int[] EDGES = {
        Integer.MIN_VALUE, Integer.MIN_VALUE + 1, -129, -101, -10, -2, -1, 0, 1, 2, 3, 4, 5, 6, 7, 8, 9, 10, 11, 12, 16, 17,
        19, 20, 21, 26, 27, 48, 59, 60, 61, 97, 99, 100, 109, 128, 200, 201, 256, 32768, 65536,
        Integer.MAX_VALUE - 1, Integer.MAX_VALUE,
    };

    final Method[] ofClass = methods(MutantRows.class);
    final Method[] ofModel = methods(Model.class);
    private final Random random;

    Calls(long seed) {
        random = new Random(seed);
    }

    static Method[] methods(Class<?> type) {
        Method[] all = Arrays.stream(type.getDeclaredMethods())
                .filter(m -> java.lang.reflect.Modifier.isPublic(m.getModifiers()))
                .filter(m -> !java.lang.reflect.Modifier.isStatic(m.getModifiers()))
                .toArray(Method[]::new);
        Arrays.sort(all, Comparator.comparing(Method::getName));
        return all;
    }

    static long answer(Method call, Object of, int... told) {
        Object[] boxed = Arrays.stream(told).boxed().toArray();
        try {
            return ((Number) call.invoke(of, boxed)).longValue();
        } catch (InvocationTargetException e) {
            throw new IllegalStateException(told(call, told) + " threw", e.getCause());
        } catch (IllegalAccessException e) {
            throw new IllegalStateException(e);
        }
    }

    static String told(Method call, int... told) {
        return call.getName() + Arrays.toString(told).replace('[', '(').replace(']', ')');
    }

    int below(int n) {
        return random.nextInt(n);
    }

    /** Numbers that mostly mean something, and sometimes lie at an edge. */
    int[] some(Method call) {
        int[] told = new int[call.getParameterCount()];
        for (int p = 0; p < told.length; p++) {
            told[p] = below(12) == 0 ? EDGES[below(EDGES.length)] : below(4) == 0 ? below(22) - 1 : below(5);
        }
        return told;
    }

    int[] wild(Method call) {
        int[] told = new int[call.getParameterCount()];
        for (int p = 0; p < told.length; p++) {
            told[p] = below(3) == 0 ? below(4) : EDGES[below(EDGES.length)];
        }
        return told;
    }

    String text() {
        StringBuilder text = new StringBuilder("m");
        int steps = 1 + below(5);
        for (int k = 0; k < steps; k++) {
            text.append(';').append("asmgl".charAt(below(5))).append(source(k)).append(source(k));
        }
        int tests = 1 + below(7);
        for (int t = 0; t < tests; t++) {
            text.append(',').append("PSD".charAt(below(3))).append(1 + below(9)).append(below(10)).append(below(10));
        }
        return text.toString();
    }

    private char source(int k) {
        int s = below(k + 2);
        return s < k ? (char) ('0' + s) : s == k ? 'x' : 'y';
    }

    /** A TEXT with one code changed, put in, or left out, or cut off. */
    String almostText() {
        StringBuilder text = new StringBuilder(text());
        int place = below(text.length());
        char code = "m;,asglxyPSD0123456789? ".charAt(below(24));
        switch (below(4)) {
            case 0 -> text.setCharAt(place, code);
            case 1 -> text.insert(place, code);
            case 2 -> text.deleteCharAt(place);
            default -> text.setLength(place);
        }
        return text.toString();
    }

    /** Pairs of a DAY: most of them can be. */
    int[] pairs() {
        int[] cells = new int[2 * below(6)];
        for (int c = 0; c < cells.length; c += 2) {
            int part = below(3);
            int most = below(8) == 0 ? 7 : below(2) == 0 ? 1 : 2;
            cells[c + 1] = 10 * part + below(part == 0 ? Math.min(most, 5) : most);
            cells[c] = part == 0 ? below(5) : part == 1 ? 1 + below(9) : below(100);
            if (below(40) == 0) {
                cells[c + below(2)] = EDGES[below(EDGES.length)];
            }
        }
        return cells;
    }
}
