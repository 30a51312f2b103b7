import java.util.ArrayDeque;
import java.util.ArrayList;
import java.util.IdentityHashMap;
import java.util.List;
import java.util.Map;

/**
 * The document's words taken one by one, with Java's own objects and no thought for speed, for ModelTest to compare with.
 * A value is null for nil, an Integer, or a Thing.
 */
final class PlainStore {
    static final class Thing {
        int identity;
        Object itsClass;
        Object[] slots;
        int[] bytes;

        int size() {
            return slots != null ? slots.length : bytes.length;
        }

        int words() {
            return 4 + (slots != null ? slots.length : (bytes.length + 3) / 4);
        }
    }

    private final int allWords;
    private final int allEntries;
    private final Object[] registers = new Object[32];
    private int identities = 0;

    PlainStore(int words, int entries) {
        allWords = words < 64 || words > 65536 ? 65536 : words;
        allEntries = entries < 16 || entries > 8192 ? 8192 : entries;
    }

    private static void must(boolean holds) {
        if (!holds) {
            throw new IllegalArgumentException();
        }
    }

    private static void register(int... all) {
        for (int r : all) {
            must(r >= 0 && r < 32);
        }
    }

    private Thing thing(int r) {
        register(r);
        must(registers[r] instanceof Thing);
        return (Thing) registers[r];
    }

    private Thing slotted(int r) {
        must(thing(r).slots != null);
        return thing(r);
    }

    private Thing byted(int r) {
        must(thing(r).bytes != null);
        return thing(r);
    }

    private static void index(Thing t, int i) {
        if (i < 0 || i >= t.size()) {
            throw new IndexOutOfBoundsException();
        }
    }

    private static boolean same(Object a, Object b) {
        return a instanceof Integer ? a.equals(b) : a == b;
    }

    /** What is reachable from the values given, in the order of identities. */
    private static List<Thing> reachable(Object... from) {
        Map<Thing, Boolean> seen = new IdentityHashMap<>();
        ArrayDeque<Object> open = new ArrayDeque<>();
        for (Object v : from) {
            if (v != null) {
                open.add(v);
            }
        }
        while (!open.isEmpty()) {
            if (open.remove() instanceof Thing t && seen.put(t, true) == null) {
                if (t.itsClass != null) {
                    open.add(t.itsClass);
                }
                for (int i = 0; t.slots != null && i < t.slots.length; i++) {
                    if (t.slots[i] != null) {
                        open.add(t.slots[i]);
                    }
                }
            }
        }
        List<Thing> all = new ArrayList<>(seen.keySet());
        all.sort((a, b) -> Integer.compare(a.identity, b.identity));
        return all;
    }

    private boolean fits(Thing t) {
        return t.words() <= words() && entries() >= 1;
    }

    private void enter(int r, Thing t) {
        if (!fits(t)) {
            throw new UnsupportedOperationException();
        }
        t.identity = ++identities;
        registers[r] = t;
    }

    private static Thing fresh(Object itsClass, int n, boolean slots) {
        Thing t = new Thing();
        t.itsClass = itsClass;
        if (slots) {
            t.slots = new Object[n];
        } else {
            t.bytes = new int[n];
        }
        return t;
    }

    void number(int r, int v) {
        register(r);
        must(v >= -1073741824 && v <= 1073741823);
        registers[r] = v;
    }

    void move(int r, int from) {
        register(r, from);
        registers[r] = registers[from];
    }

    void clear(int r) {
        register(r);
        registers[r] = null;
    }

    int make(int r, int c, int n, boolean slots) {
        register(r, c);
        must(n >= 0 && n <= (slots ? 4000 : 16000));
        enter(r, fresh(registers[c], n, slots));
        return identities;
    }

    int copy(int r, int from) {
        register(r);
        Thing old = thing(from);
        Thing t = fresh(old.itsClass, old.size(), old.slots != null);
        if (old.slots != null) {
            t.slots = old.slots.clone();
        } else {
            t.bytes = old.bytes.clone();
        }
        enter(r, t);
        return identities;
    }

    int chain(int r, int c, int n, int many) {
        register(r, c);
        must(n >= 1 && n <= 100);
        must(many >= 1 && many <= 4000);
        int made = 0;
        while (made < many) {
            Thing t = fresh(registers[c], n, true);
            if (!fits(t)) {
                break;
            }
            t.slots[0] = registers[r];
            enter(r, t);
            made++;
        }
        return made;
    }

    void get(int r, int from, int i) {
        register(r);
        Thing t = slotted(from);
        index(t, i);
        registers[r] = t.slots[i];
    }

    void put(int to, int i, int r) {
        register(r);
        Thing t = slotted(to);
        index(t, i);
        t.slots[i] = registers[r];
    }

    int walk(int r, int i, int n) {
        register(r);
        must(n >= 0 && n <= 10000);
        int steps = 0;
        while (steps < n && registers[r] instanceof Thing t && t.slots != null && i >= 0 && i < t.slots.length) {
            registers[r] = t.slots[i];
            steps++;
        }
        return steps;
    }

    void classOf(int r, int from) {
        register(r);
        registers[r] = thing(from).itsClass;
    }

    void setClass(int r, int c) {
        register(c);
        thing(r).itsClass = registers[c];
    }

    int byteAt(int r, int i) {
        index(byted(r), i);
        return byted(r).bytes[i];
    }

    void bytePut(int r, int i, long eight) {
        Thing t = byted(r);
        index(t, i);
        long left = eight;
        for (int k = 7; k >= 0; k--) {
            if (i + k < t.bytes.length) {
                t.bytes[i + k] = (int) (left & 255);
            }
            left >>= 8;
        }
    }

    int kind(int r) {
        register(r);
        if (registers[r] instanceof Thing t) {
            return t.slots != null ? 2 : 3;
        }
        return registers[r] == null ? 0 : 1;
    }

    int value(int r) {
        register(r);
        if (registers[r] instanceof Thing t) {
            return t.identity;
        }
        return registers[r] instanceof Integer v ? v : 0;
    }

    int size(int r) {
        register(r);
        return registers[r] instanceof Thing t ? t.size() : 0;
    }

    private static Object swapped(Object v, Thing a, Thing b) {
        return v == a ? b : v == b ? a : v;
    }

    void become(int first, int second) {
        Thing a = thing(first);
        Thing b = thing(second);
        for (Thing t : reachable(registers)) {
            t.itsClass = swapped(t.itsClass, a, b);
            for (int i = 0; t.slots != null && i < t.slots.length; i++) {
                t.slots[i] = swapped(t.slots[i], a, b);
            }
        }
        for (int r = 0; r < 32; r++) {
            registers[r] = swapped(registers[r], a, b);
        }
    }

    int words() {
        int left = allWords;
        for (Thing t : reachable(registers)) {
            left -= t.words();
        }
        return left;
    }

    int entries() {
        return allEntries - reachable(registers).size();
    }

    int instance(int r, int c, int k) {
        register(r, c);
        must(k >= 0);
        int before = 0;
        for (Thing t : reachable(registers)) {
            if (same(t.itsClass, registers[c]) && before++ == k) {
                registers[r] = t;
                return t.identity;
            }
        }
        return 0;
    }

    int owners(int r) {
        register(r);
        int count = 0;
        for (Object v : registers) {
            count += same(v, registers[r]) ? 1 : 0;
        }
        for (Thing t : reachable(registers)) {
            count += same(t.itsClass, registers[r]) ? 1 : 0;
            for (int i = 0; t.slots != null && i < t.slots.length; i++) {
                count += same(t.slots[i], registers[r]) ? 1 : 0;
            }
        }
        return count;
    }

    boolean reaches(int a, int b) {
        Thing from = thing(a);
        Thing to = thing(b);
        for (Thing t : reachable(from)) {
            if (t == to) {
                return true;
            }
        }
        return false;
    }

    int sum(int r) {
        register(r);
        int total = 7;
        if (!(registers[r] instanceof Thing t) || t.bytes == null) {
            return 0;
        }
        for (int b : t.bytes) {
            total = 31 * total + b;
        }
        return total;
    }
}
