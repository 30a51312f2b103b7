import java.lang.reflect.InvocationTargetException;
import java.lang.reflect.Method;
import java.util.Arrays;
import java.util.Map;
import java.util.TreeMap;

/** All promises: long runs of calls, the same each time, answered as PlainStore answers them. */
public final class ModelTest {
    private static final int SMALL_RUNS = 3000;
    private static final int WIDE_RUNS = 25;
    private static final int CALLS = 512;
    /** The calls and what their arguments are: r a register, i an index, n an amount, b a boolean, l a long. */
    private static final String[] MENU = {
        "number rn", "move rr", "clear r", "make rrnb", "make rrnb", "make rrnb", "make rrnb", "copy rr", "chain rrin",
        "get rri", "get rri", "put rir", "put rir", "put rir", "put rir", "walk rin", "classOf rr", "setClass rr",
        "byteAt rn", "bytePut rnl", "kind r", "value r", "size r", "become rr", "become rr", "words", "entries",
        "instance rri", "owners r", "reaches rr", "sum r"};
    private static final int[] ODD = {-1, 32, 4000, 4001, 16000, 16001, 10000, 10001, 100, 101, 1073741823, 1073741824,
        -1073741824, -1073741825, Integer.MAX_VALUE, Integer.MIN_VALUE};
    private static final Map<String, Integer> ANSWERED = new TreeMap<>();

    private final StringBuilder story = new StringBuilder();
    private final TabledStore store;
    private final PlainStore plain;
    private final int registers;
    private final boolean wide;
    private long seed;

    private ModelTest(long number, int words, int entries, boolean wide) {
        seed = number * 0x9E3779B97F4A7C15L + 1;
        this.wide = wide;
        registers = 3 + below(8);
        store = new TabledStore(words, entries);
        plain = new PlainStore(words, entries);
        story.append("\nnew TabledStore(").append(words).append(", ").append(entries).append(")\n");
    }

    public static void main(String[] args) throws ReflectiveOperationException {
        Check.says("Promises 1 to 24, to the 512th call");
        for (int run = 0; run < SMALL_RUNS; run++) {
            new ModelTest(run, 64 + run % 150, 16 + run % 9, false).run("small run " + run);
        }
        for (int run = 0; run < WIDE_RUNS; run++) {
            int words = run % 2 == 0 ? 0 : 9000 + run;
            int entries = run % 3 == 0 ? -1 : 700 + run;
            new ModelTest(-1 - run, words, entries, true).run("wide run " + run);
        }
        // Runs in which a call is never answered would show nothing of it.
        for (String call : MENU) {
            String name = call.split(" ")[0];
            Check.due("the runs have answers of " + name, ANSWERED.getOrDefault(name, 0) > SMALL_RUNS, true);
        }
        Check.end();
    }

    private void run(String name) throws ReflectiveOperationException {
        String got = "";
        String want = "";
        for (int call = 0; call < CALLS && got.equals(want); call++) {
            String[] choice = MENU[below(MENU.length)].split(" ");
            Object[] with = arguments(choice.length > 1 ? choice[1] : "");
            got = answer(store, choice[0], with);
            want = answer(plain, choice[0], with);
            story.append(choice[0]).append(Arrays.toString(with)).append(" due ").append(want).append('\n');
        }
        Check.due(name + (got.equals(want) ? "" : story), got, want);
    }

    private static String answer(Object target, String name, Object[] with) throws ReflectiveOperationException {
        try {
            String answer = String.valueOf(method(target, name).invoke(target, with));
            ANSWERED.merge(name, 1, Integer::sum);
            return answer;
        } catch (InvocationTargetException e) {
            return e.getCause().getClass().getName();
        }
    }

    private static Method method(Object target, String name) {
        for (Method method : target.getClass().getDeclaredMethods()) {
            if (method.getName().equals(name)) {
                return method;
            }
        }
        throw new IllegalStateException("there is no method " + name);
    }

    private Object[] arguments(String kinds) {
        Object[] all = new Object[kinds.length()];
        for (int k = 0; k < all.length; k++) {
            all[k] = argument(kinds.charAt(k));
        }
        return all;
    }

    private Object argument(char kind) {
        switch (kind) {
            case 'r': return below(60) == 0 ? odd() : below(registers);
            case 'i': return below(40) == 0 ? odd() : below(3);
            case 'n': return below(30) == 0 ? odd() : wide && below(4) == 0 ? below(1000) : below(12);
            case 'b': return below(3) != 0;
            default: return next();
        }
    }

    private int odd() {
        return ODD[below(ODD.length)];
    }

    private int below(int bound) {
        return (int) ((next() >>> 33) % bound);
    }

    private long next() {
        seed ^= seed << 13;
        seed ^= seed >>> 7;
        seed ^= seed << 17;
        return seed * 0x2545F4914F6CDD1DL;
    }
}
