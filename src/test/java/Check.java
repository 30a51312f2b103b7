/** What the tests share: each answer that is not due is printed, and then the test ends with exit code 1. */
final class Check {
    /** A call of a store, to be tried for what it throws and what it leaves. */
    interface Call {
        void on(TabledStore x);
    }

    /** A call of a store that takes a register. */
    interface RegisterCall {
        void on(TabledStore x, int r);
    }

    /** A call of a store that takes a number of some kind. */
    interface NumberCall {
        void on(TabledStore x, int n);
    }

    /** Makes a store, the same each time. */
    interface Maker {
        TabledStore make();
    }

    /** What thrown answers. */
    static final String NOTHING = "nothing";
    static final String BAD_ARGUMENT = "java.lang.IllegalArgumentException";
    static final String BAD_INDEX = "java.lang.IndexOutOfBoundsException";
    static final String NO_ROOM = "java.lang.UnsupportedOperationException";

    /** Far above what any test takes, so that a call that does not end fails its test and does not hang it. */
    private static final long LONGEST_MILLISECONDS = 300_000;

    private static volatile String sentence = "";
    private static int sentences = 0;
    private static int wrong = 0;
    private static int looked = 0;

    static {
        Thread watch = new Thread(Check::endWhenTooLong);
        watch.setDaemon(true);
        watch.start();
    }

    private Check() {
    }

    private static void endWhenTooLong() {
        try {
            Thread.sleep(LONGEST_MILLISECONDS);
        } catch (InterruptedException e) {
            return;
        }
        System.out.println("[" + sentence + "] a call does not end");
        System.exit(1);
    }

    /** The document's words that the answers from here on are due by. */
    static void says(String words) {
        sentence = words;
        sentences++;
    }

    static void due(String what, long got, long want) {
        due(what, String.valueOf(got), String.valueOf(want));
    }

    static void due(String what, boolean got, boolean want) {
        due(what, String.valueOf(got), String.valueOf(want));
    }

    static void due(String what, String got, String want) {
        looked++;
        if (!got.equals(want)) {
            wrong++;
            System.out.println("[" + sentence + "] " + what + " answered " + got + ", due is " + want);
        }
    }

    static void badArgument(String what, Call call) {
        badArgument(Stores::mixed, what, call);
    }

    static void badArgument(Maker maker, String what, Call call) {
        refused(maker, what, BAD_ARGUMENT, call);
    }

    static void badIndex(Maker maker, String what, Call call) {
        refused(maker, what, BAD_INDEX, call);
    }

    static void noRoom(Maker maker, String what, Call call) {
        refused(maker, what, NO_ROOM, call);
    }

    /** The registers just outside 0 .. 31, and those farthest from it. */
    static void badRegister(String what, RegisterCall call) {
        badNumbers(what + ", register", call::on, -1, 32, Integer.MIN_VALUE, Integer.MAX_VALUE);
    }

    static void badNumbers(String what, NumberCall call, int... all) {
        for (int n : all) {
            badArgument(what + " " + n, x -> call.on(x, n));
        }
    }

    /** Each of these numbers is taken by a store of the maker's. */
    static void taken(Maker maker, String what, NumberCall call, int... all) {
        for (int n : all) {
            due(what + " " + n + " throws", thrown(maker.make(), x -> call.on(x, n)), NOTHING);
        }
    }

    /** The call throws just this, and a store that it was tried on is like one that it was not tried on. */
    private static void refused(Maker maker, String what, String exception, Call call) {
        TabledStore tried = maker.make();
        due(what + " throws", thrown(tried, call), exception);
        due(what + " leaves", Picture.of(tried), Picture.of(maker.make()));
    }

    /** The call throws nothing, and changes nothing either. */
    static void stays(Maker maker, String what, Call call) {
        TabledStore tried = maker.make();
        due(what + " throws", thrown(tried, call), NOTHING);
        due(what + " leaves", Picture.of(tried), Picture.of(maker.make()));
    }

    static String thrown(TabledStore x, Call call) {
        try {
            call.on(x);
        } catch (RuntimeException e) {
            return e.getClass().getName();
        }
        return NOTHING;
    }

    static void end() {
        System.out.println(sentences + " sentences, " + looked + " answers looked at, " + wrong + " wrong");
        if (wrong != 0 || looked == 0) {
            System.exit(1);
        }
    }
}
