/** What the tests share: each answer that is not due is printed, and then the test ends with exit code 1. */
final class Check {
    /** A call of a store, to be tried for what it throws. */
    interface Call {
        void on(TabledStore x);
    }

    /** A call of a store that takes a register. */
    interface RegisterCall {
        void on(TabledStore x, int r);
    }

    private static final int REGISTERS = 32;
    private static int wrong = 0;
    private static int looked = 0;

    private Check() {
    }

    static void due(String what, long got, long want) {
        due(what, String.valueOf(got), String.valueOf(want));
    }

    static void due(String what, boolean got, boolean want) {
        due(what, String.valueOf(got), String.valueOf(want));
    }

    static void due(String what, String got, String want) {
        looked++;
        if (!got.equals(want)) {
            wrong++;
            System.out.println(what + " answered " + got + ", due is " + want);
        }
    }

    /**
     * A store with something of each kind: register 0 an object of 3 slots, 1 one of 10 bytes with that as its class,
     * 2 the number 42, 3 an object of no slots, 4 one of no bytes; the others nil.
     */
    static TabledStore filled() {
        TabledStore x = new TabledStore(300, 20);
        x.make(0, 31, 3, true);
        x.make(1, 0, 10, false);
        x.bytePut(1, 1, 0x1122334455667788L);
        x.number(2, 42);
        x.make(3, 2, 0, true);
        x.make(4, 3, 0, false);
        x.put(0, 1, 3);
        return x;
    }

    static void badArgument(String what, Call call) {
        refused(filled(), what, IllegalArgumentException.class, call);
    }

    static void badIndex(String what, Call call) {
        refused(filled(), what, IndexOutOfBoundsException.class, call);
    }

    static void badRegister(String what, RegisterCall call) {
        for (int r : new int[] {-1, 32, 33, Integer.MAX_VALUE, Integer.MIN_VALUE}) {
            badArgument(what + ", register " + r, x -> call.on(x, r));
        }
    }

    static void noRoom(TabledStore x, String what, Call call) {
        refused(x, what, UnsupportedOperationException.class, call);
    }

    /** The call throws just this and changes nothing that can be seen; looking takes most of a store's 512 calls. */
    private static void refused(TabledStore x, String what, Class<?> exception, Call call) {
        String before = state(x);
        due(what + " throws", thrown(x, call), exception.getName());
        due(what + " leaves", state(x), before);
    }

    static String thrown(TabledStore x, Call call) {
        try {
            call.on(x);
        } catch (RuntimeException e) {
            return e.getClass().getName();
        }
        return "nothing";
    }

    /** All that 162 calls tell of a store. */
    static String state(TabledStore x) {
        StringBuilder text = new StringBuilder();
        for (int r = 0; r < REGISTERS; r++) {
            text.append(x.kind(r)).append(':').append(x.value(r)).append(':').append(x.size(r)).append(':');
            text.append(x.sum(r)).append(':').append(x.owners(r)).append(' ');
        }
        return text.append(x.words()).append(' ').append(x.entries()).toString();
    }

    static void end() {
        System.out.println(looked + " answers looked at, " + wrong + " wrong");
        if (wrong != 0 || looked == 0) {
            System.exit(1);
        }
    }
}
