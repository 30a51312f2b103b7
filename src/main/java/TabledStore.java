/**
 * A store of objects that point to one another, with 32 registers through which they are used.
 * This class holds the registers and tests what callers hand in; Memory holds the objects.
 */
public final class TabledStore {
    private static final int REGISTERS = 32;
    private static final int LOWEST_NUMBER = -1073741824;
    private static final int HIGHEST_NUMBER = 1073741823;
    private static final int FEWEST_WORDS = 64;
    private static final int MOST_WORDS = 65536;
    private static final int FEWEST_ENTRIES = 16;
    private static final int MOST_ENTRIES = 8192;
    private static final int MOST_SLOTS = 4000;
    private static final int MOST_BYTES = 16000;
    private static final int MOST_CHAINED = 4000;
    private static final int MOST_CHAINED_SLOTS = 100;
    private static final int MOST_STEPS = 10000;
    private static final int BYTES_OF_LONG = 8;

    private static final int KIND_NIL = 0;
    private static final int KIND_NUMBER = 1;
    private static final int KIND_SLOTS = 2;
    private static final int KIND_BYTES = 3;

    private final int[] registers;
    private final Memory memory;

    public TabledStore(int words, int entries) {
        registers = new int[REGISTERS];
        memory = new Memory(
                isBetween(words, FEWEST_WORDS, MOST_WORDS) ? words : MOST_WORDS,
                isBetween(entries, FEWEST_ENTRIES, MOST_ENTRIES) ? entries : MOST_ENTRIES);
    }

    public void number(int r, int v) throws IllegalArgumentException {
        needRegister(r);
        needBetween(v, LOWEST_NUMBER, HIGHEST_NUMBER);
        setRegister(r, Value.ofNumber(v));
    }

    public void move(int r, int from) throws IllegalArgumentException {
        needRegister(r);
        needRegister(from);
        setRegister(r, registers[from]);
    }

    public void clear(int r) throws IllegalArgumentException {
        needRegister(r);
        setRegister(r, Value.NIL);
    }

    public int make(int r, int c, int n, boolean slots)
            throws IllegalArgumentException, UnsupportedOperationException {
        needRegister(r);
        needRegister(c);
        needBetween(n, 0, slots ? MOST_SLOTS : MOST_BYTES);
        int object = memory.build(registers[c], Memory.shape(n, slots), registers);
        needMade(object);
        setRegister(r, object);
        return memory.identity(object);
    }

    public int copy(int r, int from) throws IllegalArgumentException, UnsupportedOperationException {
        needRegister(r);
        needObject(from);
        int like = registers[from];
        int object = memory.build(memory.itsClass(like), memory.shapeOf(like), registers);
        needMade(object);
        memory.fillLike(object, like);
        setRegister(r, object);
        return memory.identity(object);
    }

    public int chain(int r, int c, int n, int many) throws IllegalArgumentException {
        needRegister(r);
        needRegister(c);
        needBetween(n, 1, MOST_CHAINED_SLOTS);
        needBetween(many, 1, MOST_CHAINED);
        int shape = Memory.shape(n, true);
        for (int made = 0; made < many; made++) {
            int object = memory.build(registers[c], shape, registers);
            if (object == Value.NIL) {
                return made;
            }
            memory.setSlot(object, 0, registers[r]);
            // Not setRegister: slot 0 keeps what the register had, so nothing is let go.
            registers[r] = object;
        }
        return many;
    }

    public void get(int r, int from, int i) throws IllegalArgumentException, IndexOutOfBoundsException {
        needRegister(r);
        needSlots(from);
        needIndex(from, i);
        setRegister(r, memory.slot(registers[from], i));
    }

    public void put(int to, int i, int r) throws IllegalArgumentException, IndexOutOfBoundsException {
        needRegister(r);
        needSlots(to);
        needIndex(to, i);
        memory.setSlot(registers[to], i, registers[r]);
    }

    public int walk(int r, int i, int n) throws IllegalArgumentException {
        needRegister(r);
        needBetween(n, 0, MOST_STEPS);
        int at = registers[r];
        int steps = 0;
        while (steps < n && memory.holdsSlot(at, i)) {
            at = memory.slot(at, i);
            steps++;
        }
        setRegister(r, at);
        return steps;
    }

    public void classOf(int r, int from) throws IllegalArgumentException {
        needRegister(r);
        needObject(from);
        setRegister(r, memory.itsClass(registers[from]));
    }

    public void setClass(int r, int c) throws IllegalArgumentException {
        needObject(r);
        needRegister(c);
        memory.setItsClass(registers[r], registers[c]);
    }

    public int byteAt(int r, int i) throws IllegalArgumentException, IndexOutOfBoundsException {
        needBytes(r);
        needIndex(r, i);
        return memory.oneByte(registers[r], i);
    }

    public void bytePut(int r, int i, long eight) throws IllegalArgumentException, IndexOutOfBoundsException {
        needBytes(r);
        needIndex(r, i);
        int object = registers[r];
        int many = Math.min(BYTES_OF_LONG, memory.count(object) - i);
        for (int k = 0; k < many; k++) {
            int shift = 8 * (BYTES_OF_LONG - 1 - k);
            memory.setOneByte(object, i + k, (int) (eight >>> shift) & 255);
        }
    }

    public int kind(int r) throws IllegalArgumentException {
        needRegister(r);
        int value = registers[r];
        if (value == Value.NIL) {
            return KIND_NIL;
        }
        if (Value.isNumber(value)) {
            return KIND_NUMBER;
        }
        return memory.holdsSlots(value) ? KIND_SLOTS : KIND_BYTES;
    }

    public int value(int r) throws IllegalArgumentException {
        needRegister(r);
        int value = registers[r];
        if (value == Value.NIL) {
            return 0;
        }
        return Value.isNumber(value) ? Value.toNumber(value) : memory.identity(value);
    }

    public int size(int r) throws IllegalArgumentException {
        needRegister(r);
        return Value.isObject(registers[r]) ? memory.count(registers[r]) : 0;
    }

    public void become(int a, int b) throws IllegalArgumentException {
        needObject(a);
        needObject(b);
        memory.swap(registers[a], registers[b]);
    }

    public int words() {
        memory.settle(registers);
        return memory.freeWords();
    }

    public int entries() {
        memory.settle(registers);
        return memory.freeEntries();
    }

    public int instance(int r, int c, int k) throws IllegalArgumentException {
        needRegister(r);
        needRegister(c);
        needBetween(k, 0, Integer.MAX_VALUE);
        memory.settle(registers);
        int object = memory.findOfClass(registers[c], k);
        if (object == Value.NIL) {
            return 0;
        }
        setRegister(r, object);
        return memory.identity(object);
    }

    public int owners(int r) throws IllegalArgumentException {
        needRegister(r);
        int value = registers[r];
        memory.settle(registers);
        int total = memory.countHolders(value);
        for (int held : registers) {
            if (held == value) {
                total++;
            }
        }
        return total;
    }

    public boolean reaches(int a, int b) throws IllegalArgumentException {
        needObject(a);
        needObject(b);
        return memory.leadsTo(registers[a], registers[b]);
    }

    public int sum(int r) throws IllegalArgumentException {
        needRegister(r);
        int object = registers[r];
        return memory.holdsBytes(object) ? memory.sumOfBytes(object) : 0;
    }

    private void setRegister(int r, int value) {
        memory.letGo(registers[r]);
        registers[r] = value;
    }

    private static boolean isBetween(int n, int low, int high) {
        return n >= low && n <= high;
    }

    private static void needBetween(int n, int low, int high) {
        if (!isBetween(n, low, high)) {
            throw new IllegalArgumentException("a number is out of its range");
        }
    }

    private static void needRegister(int r) {
        if (!isBetween(r, 0, REGISTERS - 1)) {
            throw new IllegalArgumentException("there is no such register");
        }
    }

    private void needObject(int r) {
        needRegister(r);
        if (!Value.isObject(registers[r])) {
            throw new IllegalArgumentException("the register has no object");
        }
    }

    private void needSlots(int r) {
        needRegister(r);
        if (!memory.holdsSlots(registers[r])) {
            throw new IllegalArgumentException("the register has no object of slots");
        }
    }

    private void needBytes(int r) {
        needRegister(r);
        if (!memory.holdsBytes(registers[r])) {
            throw new IllegalArgumentException("the register has no object of bytes");
        }
    }

    private void needIndex(int r, int i) {
        if (!isBetween(i, 0, memory.count(registers[r]) - 1)) {
            throw new IndexOutOfBoundsException("the object has no such slot or byte");
        }
    }

    private static void needMade(int object) {
        if (object == Value.NIL) {
            throw new UnsupportedOperationException("there is no room for the object");
        }
    }

    /**
     * A value in one int: nil is 0, a number n is 2n + 1, the object of table entry e is 2e + 2.
     * So a row of zeros is a row of nils, and two values are the same when their ints are.
     */
    private static final class Value {
        static final int NIL = 0;

        static int ofNumber(int n) {
            return 2 * n + 1;
        }

        static int ofEntry(int entry) {
            return 2 * entry + 2;
        }

        static boolean isNumber(int value) {
            return (value & 1) != 0;
        }

        static boolean isObject(int value) {
            return value != NIL && (value & 1) == 0;
        }

        static int toNumber(int value) {
            return value >> 1;
        }

        static int toEntry(int value) {
            return (value >> 1) - 1;
        }
    }

    /**
     * The objects, one behind the other in one row of words, and the table by which values find them.
     * New ones go to the end and moved ones keep their order, so the row is always in the order of identities.
     */
    private static final class Memory {
        private static final int HEADER_WORDS = 4;
        private static final int ENTRY = 0;
        private static final int IDENTITY = 1;
        private static final int CLASS = 2;
        private static final int SHAPE = 3;

        private final int[] row;
        private int used;
        /** By entry: where in the row its object begins. */
        private final int[] places;
        /** The entries that no object in the row has. */
        private final int[] spare;
        private int spareCount;
        private int lastIdentity;

        /** The objects found reachable in the present round, and by entry the last round that found it. */
        private final int[] reached;
        private int reachedCount;
        private final int[] roundOf;
        private int round;
        /** Whether every object in the row is known to be reachable. */
        private boolean settled;

        Memory(int words, int entries) {
            row = new int[words];
            places = new int[entries];
            spare = new int[entries];
            reached = new int[entries];
            roundOf = new int[entries];
            for (int i = 0; i < entries; i++) {
                spare[i] = i;
            }
            spareCount = entries;
            settled = true;
        }

        /** How many slots or bytes, and which of the two, in the one word that a header has for it. */
        static int shape(int count, boolean slots) {
            return slots ? 2 * count : 2 * count + 1;
        }

        private static boolean isOfBytes(int shape) {
            return (shape & 1) != 0;
        }

        private static int bodyWords(int shape) {
            int count = shape >> 1;
            return isOfBytes(shape) ? (count + 3) >> 2 : count;
        }

        /** A word of the row; like every index here its own is looked at first, so that the machine never throws. */
        private int word(int at) {
            return at >= 0 && at < row.length ? row[at] : 0;
        }

        private void setWord(int at, int word) {
            if (at >= 0 && at < row.length) {
                row[at] = word;
            }
        }

        private void copyWords(int from, int to, int many) {
            if (from >= 0 && to >= 0 && many >= 0 && many <= row.length - Math.max(from, to)) {
                System.arraycopy(row, from, row, to, many);
            }
        }

        private int place(int object) {
            int entry = Value.toEntry(object);
            return entry >= 0 && entry < places.length ? places[entry] : 0;
        }

        int shapeOf(int object) {
            return word(place(object) + SHAPE);
        }

        boolean holdsSlots(int value) {
            return Value.isObject(value) && !isOfBytes(shapeOf(value));
        }

        boolean holdsBytes(int value) {
            return Value.isObject(value) && isOfBytes(shapeOf(value));
        }

        int count(int object) {
            return shapeOf(object) >> 1;
        }

        boolean holdsSlot(int value, int i) {
            return holdsSlots(value) && i >= 0 && i < count(value);
        }

        int identity(int object) {
            return word(place(object) + IDENTITY);
        }

        int itsClass(int object) {
            return word(place(object) + CLASS);
        }

        void setItsClass(int object, int value) {
            overwrite(place(object) + CLASS, value);
        }

        int slot(int object, int i) {
            return word(place(object) + HEADER_WORDS + i);
        }

        void setSlot(int object, int i, int value) {
            overwrite(place(object) + HEADER_WORDS + i, value);
        }

        int oneByte(int object, int i) {
            return byteFrom(place(object) + HEADER_WORDS, i);
        }

        private int byteFrom(int start, int i) {
            return (word(start + (i >> 2)) >>> shiftOf(i)) & 255;
        }

        int sumOfBytes(int object) {
            int start = place(object) + HEADER_WORDS;
            int many = count(object);
            int total = 7;
            for (int i = 0; i < many; i++) {
                total = 31 * total + byteFrom(start, i);
            }
            return total;
        }

        void setOneByte(int object, int i, int value) {
            int at = place(object) + HEADER_WORDS + (i >> 2);
            int others = word(at) & ~(255 << shiftOf(i));
            setWord(at, others | (value << shiftOf(i)));
        }

        private static int shiftOf(int i) {
            return 8 * (i & 3);
        }

        private void overwrite(int at, int value) {
            letGo(word(at));
            setWord(at, value);
        }

        /** To be told of each value that is overwritten, since its object may be out of reach then. */
        void letGo(int value) {
            if (Value.isObject(value)) {
                settled = false;
            }
        }

        int freeWords() {
            return row.length - used;
        }

        int freeEntries() {
            return spareCount;
        }

        /** A new object, empty; nil when there is no room for it beside what the roots reach. */
        int build(int itsClass, int shape, int[] roots) {
            int needed = HEADER_WORDS + bodyWords(shape);
            if (!fits(needed)) {
                settle(roots);
            }
            if (!fits(needed)) {
                return Value.NIL;
            }
            spareCount--;
            int entry = spare[spareCount];
            int place = used;
            int end = place + needed;
            lastIdentity++;
            seat(entry, place);
            row[place + IDENTITY] = lastIdentity;
            row[place + CLASS] = itsClass;
            row[place + SHAPE] = shape;
            for (int at = place + HEADER_WORDS; at < end; at++) {
                row[at] = 0;
            }
            used = end;
            return Value.ofEntry(entry);
        }

        /** An object becomes like another of the same shape in its slots or bytes. */
        void fillLike(int object, int other) {
            copyWords(place(other) + HEADER_WORDS, place(object) + HEADER_WORDS, bodyWords(shapeOf(other)));
        }

        /** Whether the next spare entry and so many words behind the used ones are there to be written. */
        private boolean fits(int needed) {
            return spareCount > 0 && spareCount <= spare.length && used >= 0 && needed <= row.length - used;
        }

        private void giveBackEntry(int entry) {
            if (spareCount >= 0 && spareCount < spare.length) {
                spare[spareCount] = entry;
                spareCount++;
            }
        }

        /** Two objects change their entries, and with these all that points to them. */
        void swap(int a, int b) {
            int placeOfA = place(a);
            int placeOfB = place(b);
            seat(Value.toEntry(a), placeOfB);
            seat(Value.toEntry(b), placeOfA);
        }

        private void seat(int entry, int place) {
            if (entry >= 0 && entry < places.length) {
                places[entry] = place;
            }
            setWord(place + ENTRY, entry);
        }

        /** Drops from the row what the roots do not reach, unless there is no such object. */
        void settle(int[] roots) {
            if (settled) {
                return;
            }
            startRound();
            for (int value : roots) {
                reach(value);
            }
            spread();
            slide();
            settled = true;
        }

        boolean leadsTo(int object, int other) {
            startRound();
            reach(object);
            spread();
            return isReached(Value.toEntry(other));
        }

        private void startRound() {
            round++;
            reachedCount = 0;
        }

        private boolean isReached(int entry) {
            return entry >= 0 && entry < roundOf.length && roundOf[entry] == round;
        }

        private void reach(int value) {
            if (!Value.isObject(value)) {
                return;
            }
            int entry = Value.toEntry(value);
            if (entry >= 0 && entry < roundOf.length && roundOf[entry] != round && reachedCount < reached.length) {
                roundOf[entry] = round;
                reached[reachedCount] = value;
                reachedCount++;
            }
        }

        /** Goes on from what is reached to all that it leads to; each object is reached once at most. */
        private void spread() {
            for (int next = 0; next < reached.length && next < reachedCount; next++) {
                int place = place(reached[next]);
                reach(word(place + CLASS));
                int end = Math.min(endOfSlots(place), row.length);
                for (int at = Math.max(0, place + HEADER_WORDS); at < end; at++) {
                    reach(row[at]);
                }
            }
        }

        /** Behind the last slot of the object at a place; an object of bytes has no slots. */
        private int endOfSlots(int place) {
            int shape = word(place + SHAPE);
            return place + HEADER_WORDS + (isOfBytes(shape) ? 0 : bodyWords(shape));
        }

        private int bodyWordsAt(int place) {
            return bodyWords(word(place + SHAPE));
        }

        /** Moves all reached objects to the row's beginning and takes back the entries of the others. */
        private void slide() {
            int end = used;
            int body;
            used = 0;
            for (int place = 0; place < end; place += HEADER_WORDS + body) {
                // Looked up first: moving the object may write over where it was.
                body = bodyWordsAt(place);
                int entry = word(place + ENTRY);
                if (isReached(entry)) {
                    copyWords(place, used, HEADER_WORDS + body);
                    seat(entry, used);
                    used += HEADER_WORDS + body;
                } else {
                    giveBackEntry(entry);
                }
            }
        }

        /** The k-th object of the row with such a class, nil when there is none. */
        int findOfClass(int value, int k) {
            int before = 0;
            for (int place = 0; place < used; place += HEADER_WORDS + bodyWordsAt(place)) {
                if (word(place + CLASS) == value) {
                    if (before == k) {
                        return Value.ofEntry(word(place + ENTRY));
                    }
                    before++;
                }
            }
            return Value.NIL;
        }

        /** How many classes and slots of the row's objects have a value. */
        int countHolders(int value) {
            int total = 0;
            for (int place = 0; place < used; place += HEADER_WORDS + bodyWordsAt(place)) {
                if (word(place + CLASS) == value) {
                    total++;
                }
                int end = Math.min(endOfSlots(place), row.length);
                for (int at = place + HEADER_WORDS; at < end; at++) {
                    if (row[at] == value) {
                        total++;
                    }
                }
            }
            return total;
        }
    }
}
