import java.lang.reflect.InvocationTargetException;
import java.lang.reflect.Method;
import java.lang.reflect.Modifier;
import java.util.ArrayList;
import java.util.Arrays;
import java.util.List;

/**
 * Every call with all edges of its arguments, in several states: it answers as the model does and
 * throws nothing; one that refuses or only asks changes nothing, any other one just what the
 * model changes, too.
 */
public final class SweepTest {
    private static final int MIN = Integer.MIN_VALUE, MAX = Integer.MAX_VALUE;
    /** By how many arguments a call has. */
    private static final int[][] EDGES = {
        {},
        {MIN, -32768, -10000, -101, -100, -15, -6, -5, -4, -3, -2, -1, 0, 1, 2, 3, 4, 5, 6, 7, 8, 9, 10, 11, 24, 39, 40, 41, 79, 80, 81, 126, 127, 128, 255, 256, 9999, 10000, 65536, MAX},
        {MIN, -10000, -4, -3, -2, -1, 0, 1, 2, 3, 4, 5, 6, 7, 8, 9, 10, 23, 24, 39, 40, 41, 80, 9999, MAX},
        {MIN, -10000, -9999, -4, -3, -2, -1, 0, 1, 2, 3, 4, 5, 6, 7, 8, 9, 40, 41, 9999, 10000, MAX},
        {MIN, -1, 0, 1, 2, 3, 4, 5, 8, 9, 40, MAX},
        {MIN, -1, 0, 1, 3, 4, 5, MAX},
    };
    /** Those that are asked only; all others may change something when they do not refuse. */
    private static final List<String> ASKED = List.of("at", "told", "worth", "expansion", "factor", "tree", "knot", "key", "point", "side", "residual", "monomial", "leaf", "spelling",
        "corner", "slope", "whyNot", "item", "count");
    private static final int TOGETHER = 60;

    private static final List<Method[]> calls = new ArrayList<>();
    private static int wrong = 0;
    private static long many = 0;

    public static void main(String[] args) throws Exception {
        for (Method own : TypesAtPrime.class.getDeclaredMethods()) {
            if (Modifier.isPublic(own.getModifiers())) calls.add(new Method[] {own, Model.class.getDeclaredMethod(own.getName(), own.getParameterTypes())});
        }
        calls.sort((a, b) -> a[0].getName().compareTo(b[0].getName()));
        for (int state = 0; state < STATES.length; state++) for (Method[] call : calls) sweep(state, call);
        System.out.println(wrong == 0 ? many + " calls at their edges, as the model" : wrong + " answers or states are not the model's");
        if (wrong != 0) System.exit(1);
    }

    // ---- states: a prime, a text for each slot, which of them is grown, sheets (sort and size), THE TAPE

    private static final Object[][] STATES = {
        {3, new String[] {"0", "0", "0", "0", "0"}, -1, new int[][] {{-1, 0}, {-1, 0}, {-1, 0}, {-1, 0}}, ""},
        {3, new String[] {"x^6-27", "x^2-3", "9999*x^8-9999", "-7", "0"}, 0, new int[][] {{0, 5}, {1, 9}, {1, 0}, {-1, 0}}, "x^2+1"},
        {2, new String[] {"x^2+2*x+1", "x-1", "x^8-256", "100*x^4", "3*x+9999"}, 2, new int[][] {{-1, 0}, {1, 3}, {1, 5}, {0, 12}}, "full"},
        {7, new String[] {"x", "5*x^3-49", "7*x^2+14", "x^5", "x^4-x^2"}, 4, new int[][] {{1, 2}, {1, 4}, {0, 3}, {0, 6}}, "index"},
        {5, new String[] {"x^3-20*x^2+125*x-250", "1", "x^8-9999", "x^4+625", "-x"}, 0, new int[][] {{1, 40}, {0, 40}, {1, 1}, {0, 0}}, "9999+1"},
    };

    private static String tape(int state) {
        String text = (String) STATES[state][4];
        return text.equals("full") ? "11*x" + "+1*x".repeat(19) : text;
    }

    private static Object build(int state, boolean model) throws Exception {
        Object x = model ? new Model() : new TypesAtPrime();
        Object[] told = STATES[state];
        call(x, "prime", told[0]);
        String[] texts = (String[]) told[1];
        for (int slot = 0; slot < 5; slot++) {
            if (!texts[slot].equals("0")) set(x, slot, texts[slot]);
        }
        int which = (Integer) told[2];
        if (which >= 0) call(x, "grow", which);
        int[][] sheets = (int[][]) told[3];
        for (int s = 0; s < 4; s++) {
            if (sheets[s][0] < 0) continue;
            call(x, "sheet", s, sheets[s][0], sheets[s][1]);
            for (int i = 0; i < Math.min(7, sheets[s][1]); i++) call(x, "cell", s, i, 30 + s - 9 * i + i * i);
        }
        for (char letter : tape(state).toCharArray()) call(x, "feed", (int) letter);
        return x;
    }

    private static void set(Object x, int slot, String text) throws Exception {
        TypesAtPrime reader = new TypesAtPrime();
        for (char letter : text.toCharArray()) reader.feed(letter);
        reader.text(slot);
        for (int k = 0; k <= 8; k++) if (reader.at(slot, k) != 0) call(x, "set", slot, k, (int) reader.at(slot, k));
    }

    private static long call(Object x, String name, Object... arguments) throws Exception {
        for (Method[] one : calls) {
            if (one[0].getName().equals(name)) return answer(one[x instanceof Model ? 1 : 0], x, arguments);
        }
        throw new IllegalStateException(name);
    }

    private static long answer(Method method, Object x, Object[] arguments) throws Exception {
        return ((Number) method.invoke(x, arguments)).longValue();
    }

    // ---- all that can be asked, and at last what THE TAPE tells

    private static long[] dump(Object x, int state) throws Exception {
        List<Long> all = new ArrayList<>();
        for (int what = 0; what <= 5; what++) all.add(call(x, "count", what));
        for (int what = 0; what <= 7; what++) all.add(call(x, "tree", what));
        for (int slot = 0; slot < 5; slot++) for (int k = 0; k <= 8; k++) all.add(call(x, "at", slot, k));
        for (int i = 0; i < Math.min(3, call(x, "tree", 0)); i++) {
            for (int what = 0; what <= 6; what++) all.add(call(x, "knot", i, what));
            for (int k = 0; k <= 8; k += 2) all.add(call(x, "point", i, k));
            for (int what = 0; what <= 5; what++) all.add(call(x, "side", i, 0, what));
            for (int k = 0; k <= 2; k++) all.add(call(x, "residual", i, 0, k));
        }
        for (int i = 0; i < call(x, "tree", 1); i++) for (int what = 0; what <= 4; what++) all.add(call(x, "leaf", i, what));
        for (int i = 0; i < call(x, "tree", 6); i++) all.add(call(x, "spelling", i));
        for (int sheet = 0; sheet < 4; sheet++) {
            long number = 0;
            for (int i = 0; i < 40 && number != Long.MIN_VALUE; i++) {
                number = call(x, "item", sheet, i);
                all.add(number);
            }
        }
        all.add(call(x, tape(state).equals("index") ? "ask" : "text", tape(state).equals("index") ? new Object[0] : new Object[] {4}));
        for (int k = 0; k <= 8; k++) all.add(call(x, "at", 4, k));
        return all.stream().mapToLong(Long::longValue).toArray();
    }

    private static void sameState(int state, String what, long[] got, long[] want) {
        if (Arrays.equals(got, want)) return;
        wrong++;
        if (wrong <= 20) System.out.println("state " + state + ": what is told after " + what + " is " + Arrays.toString(got) + ", due is " + Arrays.toString(want));
    }

    // ---- the sweep

    private static void sweep(int state, Method[] call) throws Exception {
        int[] edges = EDGES[call[0].getParameterCount()];
        int arity = call[0].getParameterCount(), all = (int) Math.pow(Math.max(1, edges.length), arity);
        long[] untouched = dump(build(state, true), state);
        sameState(state, "nothing", dump(build(state, false), state), untouched);
        Object x = build(state, false), model = build(state, true);
        int together = 0;
        for (int n = 0; n < all; n++) {
            Object[] arguments = new Object[arity];
            for (int a = 0, left = n; a < arity; a++, left /= edges.length) arguments[a] = edges[left % edges.length];
            String name = call[0].getName() + Arrays.toString(arguments);
            long want = answer(call[1], model, arguments);
            compare(state, name, call[0], x, arguments, want);
            together++;
            boolean may = mayChange(call[0].getName(), want);
            if (may) sameState(state, name, dump(x, state), dump(model, state));
            else if (together == TOGETHER || n == all - 1) sameState(state, "many up to " + name, dump(x, state), untouched);
            if (may || together == TOGETHER) {
                x = build(state, false);
                together = 0;
            }
            if (may) model = build(state, true);
        }
    }

    private static boolean mayChange(String name, long want) {
        if (ASKED.contains(name)) return false;
        // these empty THE TAPE, whatever they answer, but for a SLOT that is none
        if (name.equals("ask") || name.equals("text") && want != -1) return true;
        return want >= 0 || name.equals("set") && want != Long.MIN_VALUE;
    }

    private static void compare(int state, String name, Method method, Object x, Object[] arguments, long want) throws Exception {
        many++;
        try {
            long got = answer(method, x, arguments);
            if (got == want) return;
            wrong++;
            if (wrong <= 20) System.out.println("state " + state + ": " + name + " answered " + got + ", due is " + want);
        } catch (InvocationTargetException thrown) {
            wrong++;
            System.out.println("state " + state + ": " + name + " threw " + thrown.getCause());
        }
    }
}
