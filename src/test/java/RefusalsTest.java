import java.lang.reflect.InvocationTargetException;
import java.lang.reflect.Method;
import java.util.ArrayList;
import java.util.Arrays;
import java.util.LinkedHashMap;
import java.util.List;
import java.util.Map;

/**
 * Each argument of each call just inside its bounds and just outside of them, alone and together with each other
 * argument of that call: which exception tells it, the one that the document tells first, and that nothing changes.
 */
public final class RefusalsTest {
    private static final Ledger LEDGER = new Ledger();
    private static final int LEAST = Integer.MIN_VALUE;
    private static final int MOST = Integer.MAX_VALUE;

    /** What an argument may be, what it may not, and by what that is told (null: it may be all). */
    private record Bound(Class<?> by, long[] inside, long[] outside) { }

    private static final Map<String, Bound> BOUNDS = new LinkedHashMap<>();

    private static long[] of(long... all) {
        return all;
    }

    private static void bound(String name, Class<?> by, long[] inside, long... outside) {
        BOUNDS.put(name, new Bound(by, inside, outside));
    }

    /**
     * Three PLACES, MARKS and HANDS, two OFFICERS, DEEDS 0 to 12 (3 is FORGOTTEN, 5 DOUBTED), LINKS, MAPS 0 (known)
     * and 1, TRAYS 0 (three STATES), 1 (MISSING), 2 (five numbers of 32 bits) and 3 (empty); NOW is 1,000.
     */
    private static final Ledger.Story HOUSE = x -> {
        x.place(0, 0, 0);
        x.place(9, 0, 1);
        x.place(40, 60, 5);
        for (int k = 0; k < 3; k++) {
            x.mark();
            x.hand(k - 1);
        }
        x.officer(0, 9);
        x.officer(5, 0);
        x.go(1000);
        for (int deed = 0; deed <= 12; deed++) {
            x.deed(deed % 3, 60 * deed, 60 * deed + 20);
            if (deed != 11) {
                x.tell(deed, 0, 1 + deed % 2);
                x.tell(deed, 1, 1 + deed / 2 % 2);
            }
        }
        x.solve(0, 0, 0);
        x.solve(2, 0, 0);
        x.solve(1, 1, 1);
        x.solve(3, 1, 2);
        x.link(0, 0, 2);
        x.link(1, 1, 4);
        x.link(1, 3, 4);
        x.tell(4, 0, 2);
        x.forget(3);
        x.doubt(5, true);
        x.keep(0, 0, 4000);
        x.keep(1, 1, 10000);
        x.came(0, 2);
        x.tray(0, 0, 3);
        x.write(0, 0, 1);
        x.write(0, 1, 2);
        x.write(0, 2, 3);
        x.tray(2, 2, 5);
        x.tray(3, 3, 0);
        x.feed(0x6c65743b, 0x6b656570, 0x2039393b, 0x20202020, 0x20202020);
        x.text(20);
        x.feed(0x6261723b, 0x6c65743b, 0x2e202020, 0x20202020, 0x20202020);
    };

    private static void bounds() {
        bound("any", null, of(0, -1, 7, LEAST, MOST));
        bound("any long", null, of(0, -1, Long.MIN_VALUE, Long.MAX_VALUE));
        bound("flag", null, of(0, 1));
        bound("hours", Ledger.ARGUMENT, of(1, 2, 10000), 0, -1, LEAST, 10001, MOST);
        bound("across", Ledger.ARGUMENT, of(0, 50, 99), -1, 100, LEAST, MOST);
        bound("land", Ledger.ARGUMENT, of(0, 3, 5), -1, 6, LEAST, MOST);
        bound("rank", Ledger.ARGUMENT, of(0, 4, 9), -1, 10, LEAST, MOST);
        bound("home", Ledger.NO_SUCH, of(-1, 0, 2), -2, 3, LEAST, MOST);
        bound("place", Ledger.NO_SUCH, of(0, 1, 2), -1, 3, 30, LEAST, MOST);
        bound("mark", Ledger.NO_SUCH, of(0, 1, 2), -1, 3, 16, LEAST, MOST);
        bound("other mark", Ledger.NO_SUCH, of(2), -1, 3, 16, LEAST, MOST);
        bound("hand", Ledger.NO_SUCH, of(0, 1, 2), -2, 3, 20, LEAST, MOST);
        bound("officer", Ledger.NO_SUCH, of(0, 1), -1, 2, 10, LEAST, MOST);
        bound("deed", Ledger.NO_SUCH, of(0, 1, 4, 12), -1, 13, 3, 60, 64, LEAST, MOST);
        bound("other deed", Ledger.NO_SUCH, of(2, 6), -1, 13, 3, 60, 64, LEAST, MOST);
        bound("map", Ledger.NO_SUCH, of(1), -1, 2, 20, LEAST, MOST);
        bound("state", Ledger.ARGUMENT, of(0, 1, 2, 3), -1, 4, LEAST, MOST);
        bound("outcome or 3", Ledger.ARGUMENT, of(0, 1, 2, 3), -1, 4, LEAST, MOST);
        bound("outcome", Ledger.ARGUMENT, of(0, 1, 2), -1, 3, 4, LEAST, MOST);
        bound("looked", Ledger.ARGUMENT, of(1, 2), 0, 3, -1, LEAST, MOST);
        bound("soon", Ledger.ARGUMENT, of(0, 1, 2, 3), -1, 4, LEAST, MOST);
        bound("s", Ledger.ARGUMENT, of(1, 5000, 10000), 0, 10001, -1, LEAST, MOST);
        bound("within", Ledger.ARGUMENT, of(0, 100, 198), -1, 199, LEAST, MOST);
        bound("t", Ledger.ARGUMENT, of(0, 500, 1000000), -1, 1000001, LEAST, MOST);
        bound("what", Ledger.ARGUMENT, of(0, 1, 2), -1, 3, LEAST, MOST);
        bound("seed", Ledger.ARGUMENT, of(0, 1, MOST), -1, LEAST);
        bound("times", Ledger.ARGUMENT, of(1, 7, 20), 0, 21, -1, LEAST, MOST);
        bound("n", Ledger.ARGUMENT, of(0, 1, 20), -1, 21, LEAST, MOST);
        bound("tray", Ledger.NO_SUCH, of(0, 1, 2, 3), -1, 4, LEAST, MOST);
        bound("laid tray", Ledger.NO_SUCH, of(0), -1, 4, LEAST, MOST);
        bound("sort", Ledger.ARGUMENT, of(0, 1, 2, 3), -1, 4, LEAST, MOST);
        bound("many", Ledger.ARGUMENT, of(0, 1, 40), -1, 41, LEAST, MOST);
        bound("on tray", Ledger.INDEX, of(0, 1, 2), -1, 3, 40, LEAST, MOST);
        bound("from", Ledger.ARGUMENT, of(0), -1, LEAST, 99999, 100000, MOST);
        bound("to", Ledger.ARGUMENT, of(99998), -1, 100000, LEAST, MOST);
        bound("deed from", Ledger.ARGUMENT, of(0), -1, LEAST, 1001, MOST);
        bound("deed to", Ledger.ARGUMENT, of(1000, 0, 999), -1, 1001, LEAST, MOST);
        sets();
    }

    /** DEEDS 0, 2, 4 and 6 can be parted; 5 is DOUBTED, 3 FORGOTTEN, there is no 13, 60 or 63. */
    private static void sets() {
        long nine = 0b0111111000111;
        bound("set", Ledger.ARGUMENT, of(0b1010101, 0b11, 0b1010000, nine), 0, 1, 1L << 12, nine | 1L << 10 | 1L << 12,
                0b100001, 0b1001, 1L << 13 | 1, 1L << 60 | 1, 1L << 63 | 1, -1L);
        bound("set of four", Ledger.ARGUMENT, of(0b1010101, 0b11010111), 0, 1, 1L << 12, 0b1111111010111,
                0b1110101, 0b1011101, 1L << 13 | 0b1010101, 1L << 60 | 0b1010101, 1L << 63 | 0b1010101, -1L);
        bound("set of five", Ledger.ARGUMENT, of(0b1010101, 0b11, 0b1010111), 0, 1, 1L << 12, 0b11010111,
                0b100001, 0b1001, 1L << 13 | 1, 1L << 60 | 1, 1L << 63 | 1, -1L);
        bound("set of any", Ledger.ARGUMENT, of(1, 1L << 12, 0b1010111, 0b1111111010111), 0, 0b100000, 0b1000,
                1L << 13, 1L << 60, 1L << 63, 0b100001, 0b1001, -1L);
        bound("deed of set", Ledger.ARGUMENT, of(0, 2, 4), -1, 1, 3, 5, 13, 6, 63, 64, 66, -64, LEAST, MOST);
        bound("other of set", Ledger.ARGUMENT, of(6), -1, 1, 3, 5, 13, 60, 63, 64, 66, -58, LEAST, MOST);
    }

    private static void calls() {
        call("go", "hours");
        call("place", "across", "across", "land");
        call("mark");
        call("hand", "home");
        call("officer", "land", "rank");
        call("deed", "place", "deed from", "deed to");
        call("tell", "deed", "mark", "state");
        call("state", "deed", "mark", "flag");
        call("doubt", "deed", "flag");
        call("solve", "deed", "hand", "hand");
        call("bar", "deed", "other deed");
        call("are", "deed", "other deed");
        call("link", "officer", "deed", "other deed");
        call("right", "officer", "flag");
        call("forget", "deed");
        call("window", "from", "to");
        call("count", "mark", "flag", "outcome or 3", "flag");
        call("span", "mark", "flag", "outcome", "flag", "flag");
        call("weight", "mark of two", "other mark", "flag");
        call("parent", "mark", "flag");
        call("worth", "deed", "other deed", "flag");
        call("by", "deed", "other deed", "mark", "flag");
        call("best", "set", "flag");
        call("part", "set", "flag", "any");
        call("near", "set", "flag", "t");
        call("sure", "set of four", "flag", "t", "deed of set", "other of set");
        call("joined", "deed", "flag");
        call("bound", "flag");
        call("moves", "soon", "soon");
        call("changes", "mark", "looked", "looked", "flag");
        call("share", "deed", "soon", "place");
        call("likely", "deed", "soon", "s");
        call("keep", "deed", "soon", "s");
        call("came", "map", "deed");
        call("record", "flag");
        call("stopped", "deed", "flag");
        call("guess", "set of any");
        call("homes", "within", "flag");
        call("look", "set of five", "flag", "t", "what");
        call("others", "deed", "any", "flag", "flag");
        call("lots", "deed", "any", "seed", "times", "flag");
        call("feed", "any", "any", "any", "any", "any");
        call("text", "n");
        call("fault", "any");
        call("may", "officer", "deed");
        call("ask", "any", "any", "any");
        call("kept", "deed");
        call("tray", "tray", "sort", "many");
        call("write", "laid tray", "on tray", "any long");
        call("take", "laid tray", "deed");
        call("check", "set", "flag", "tray");
        call("number", "any");
    }

    // ---- how a call is made

    private static final Map<String, Method> FACE = new LinkedHashMap<>();
    private static int called = 0;

    private static Object as(Class<?> type, long v) {
        if (type == boolean.class) {
            return v != 0;
        }
        if (type == int.class) {
            return (int) v;
        }
        return v;
    }

    private static Ledger.Call with(String name, long[] args) {
        Method method = FACE.get(name);
        Object[] all = new Object[args.length];
        for (int k = 0; k < args.length; k++) {
            all[k] = as(method.getParameterTypes()[k], args[k]);
        }
        return x -> {
            try {
                return method.invoke(x, all);
            } catch (InvocationTargetException e) {
                throw (RuntimeException) e.getCause();
            } catch (IllegalAccessException e) {
                throw new IllegalStateException(e);
            }
        };
    }

    private static String text(String name, long[] args) {
        return name + Arrays.toString(args);
    }

    /** Of two exceptions the one that the call's own line tells first. */
    private static Class<?> first(String name, Class<?> one, Class<?> other) {
        for (Class<?> by : FACE.get(name).getExceptionTypes()) {
            if (by == one || by == other) {
                return by;
            }
        }
        throw new IllegalStateException(name + " does not tell of " + one);
    }

    private static void call(String name, String... kinds) {
        called++;
        List<Bound> bounds = new ArrayList<>();
        for (String kind : kinds) {
            bounds.add(BOUNDS.get(kind.equals("mark of two") ? "mark" : kind));
        }
        if (kinds.length > 0 && kinds[0].equals("mark of two")) {
            bounds.set(0, new Bound(Ledger.NO_SUCH, of(0, 1), BOUNDS.get("mark").outside));
        }
        long[] right = bounds.stream().mapToLong(b -> b.inside[0]).toArray();
        for (int k = 0; k < right.length; k++) {
            Bound bound = bounds.get(k);
            for (long v : bound.inside) {
                accepted(name, changed(right, k, v));
            }
            for (long v : bound.outside) {
                long[] args = changed(right, k, v);
                LEDGER.refused(text(name, args), HOUSE, with(name, args), first(name, bound.by, bound.by));
                for (int i = k + 1; i < right.length; i++) {
                    together(name, args, i, bound.by, bounds.get(i));
                }
            }
        }
    }

    private static long[] changed(long[] args, int k, long v) {
        long[] changed = args.clone();
        changed[k] = v;
        return changed;
    }

    private static void accepted(String name, long[] args) {
        String is = Ledger.answer(Ledger.made(HOUSE), with(name, args));
        LEDGER.due(text(name, args) + " is no call to refuse", HOUSE, x -> is.endsWith("Exception") ? is : "", "");
    }

    private static void together(String name, long[] args, int k, Class<?> by, Bound other) {
        for (long v : other.outside) {
            long[] both = changed(args, k, v);
            LEDGER.due(text(name, both), HOUSE, with(name, both), first(name, by, other.by).getSimpleName());
        }
    }

    public static void main(String[] args) {
        for (Method method : OneHand.class.getDeclaredMethods()) {
            if (java.lang.reflect.Modifier.isPublic(method.getModifiers())) {
                FACE.put(method.getName(), method);
            }
        }
        bounds();
        LEDGER.promise("2 to 53");
        calls();
        LEDGER.due("all calls of the face are here", x -> { }, x -> called, FACE.size());
        LEDGER.end();
    }
}
