/** Promise 21: instance. */
public final class InstanceTest {
    private static final int[] OF_NIL = {1, 6};
    private static final int[] OF_FOUR = {2, 4};
    private static final int[] OF_FIRST = {3, 5};

    public static void main(String[] args) {
        kth();
        none();
        lastThatCouldBeAskedFor();
        emptyStore();
        reachable();
        byIdentity();
        registers();
        noSuchRegister();
        kBelowZero();
        Check.end();
    }

    /** Of class nil 1 and 6, of class 4 (register 0) 2 and 4, of class object 1 (register 1) 3 and 5. */
    private static TabledStore six() {
        TabledStore x = new TabledStore(300, 20);
        x.number(0, 4);
        x.make(1, 31, 0, true);
        x.make(2, 0, 1, true);
        x.make(3, 1, 2, false);
        x.make(4, 0, 3, false);
        x.make(5, 1, 4, true);
        x.make(6, 6, 5, true);
        return x;
    }

    private static void kth() {
        Check.says("Promise 21: Register r becomes the k-th reachable object (from 0) .. Answers its identity");
        TabledStore x = six();
        for (int k = 0; k < 2; k++) {
            Check.due("of class nil, " + k, x.instance(9, 31, k), OF_NIL[k]);
            Check.due("of class 4, " + k, x.instance(9, 0, k), OF_FOUR[k]);
            Check.due("and in the register", x.value(9), OF_FOUR[k]);
            Check.due("of class object 1, " + k, x.instance(9, 1, k), OF_FIRST[k]);
            Check.due("and in the register", x.value(9), OF_FIRST[k]);
        }
        x.setClass(2, 2);
        Check.due("its own class", x.instance(9, 2, 0), 2);
        Check.due("over an object that it lets go", x.instance(6, 0, 0), 4);
        Check.due("which is not there any more", x.instance(9, 31, 1), 0);
    }

    private static void none() {
        Check.says("Promise 21: 0 when there is none, and register r stays");
        int[] classes = {31, 0, 1};
        for (int c : classes) {
            Check.due("the third of two", six().instance(9, c, 2), 0);
            Check.stays(InstanceTest::six, "the third of two, into nil", x -> x.instance(9, c, 2));
            Check.stays(InstanceTest::six, "the third of two, into an object", x -> x.instance(2, c, 2));
            Check.stays(InstanceTest::six, "the third of two, into a number", x -> x.instance(0, c, 2));
        }
        Check.due("of a class that none has", six().instance(9, 6, 0), 0);
        Check.stays(InstanceTest::six, "of a class that none has", x -> x.instance(9, 6, 0));
        TabledStore x = six();
        x.number(10, 0);
        Check.due("the number 0 is not nil", x.instance(9, 10, 0), 0);
        x.number(10, 1);
        Check.due("the number 1 is not object 1", x.instance(9, 10, 0), 0);
    }

    private static void lastThatCouldBeAskedFor() {
        Check.says("Promise 21: the k-th reachable object (from 0)");
        TabledStore x = six();
        Check.due("the highest k", x.instance(9, 31, Integer.MAX_VALUE), 0);
        Check.due("the register stays", x.kind(9), 0);
        x = Stores.largest();
        x.chain(0, 31, 1, 4000);
        x.chain(0, 31, 1, 4000);
        x.chain(0, 31, 1, 192);
        Check.due("the last of all entries", x.instance(1, 31, 8191), 8192);
        Check.due("one behind it", x.instance(2, 31, 8192), 0);
        Check.due("the first of all entries", x.instance(1, 31, 0), 1);
    }

    private static void emptyStore() {
        Check.says("Promise 21: 0 when there is none");
        Check.Maker empty = () -> new TabledStore(64, 16);
        Check.due("in an empty store", empty.make().instance(0, 0, 0), 0);
        Check.stays(empty, "in an empty store", x -> x.instance(0, 1, 0));
        Check.stays(empty, "in an empty store, the highest k", x -> x.instance(31, 31, Integer.MAX_VALUE));
    }

    private static void reachable() {
        Check.says("Promise 21: the k-th reachable object");
        TabledStore x = new TabledStore(300, 20);
        x.make(0, 31, 1, true);
        x.make(1, 31, 1, true);
        x.make(2, 31, 1, true);
        x.put(2, 0, 1);
        x.clear(0);
        x.clear(1);
        Check.due("the first", x.instance(9, 31, 0), 2);
        Check.due("the second", x.instance(9, 31, 1), 3);
        Check.due("no third", x.instance(9, 31, 2), 0);
        x.instance(9, 31, 0);
        x.clear(2);
        Check.due("by the register itself", x.instance(9, 31, 0), 2);
        Check.due("and it alone then", x.instance(9, 31, 1), 0);
    }

    private static void byIdentity() {
        Check.says("Promise 21: by identity");
        TabledStore x = new TabledStore(64, 16);
        for (int r = 0; r < 5; r++) {
            x.make(r, 31, 4, true);
        }
        x.clear(1);
        x.clear(3);
        x.copy(1, 4);
        x.make(3, 31, 0, false);
        x.chain(5, 31, 1, 2);
        int[] due = {1, 3, 5, 6, 7, 8, 9, 0};
        for (int k = 0; k < due.length; k++) {
            Check.due("instance " + k, x.instance(9, 31, k), due[k]);
        }
    }

    private static void registers() {
        Check.says("Promise 21: Register r .. register c");
        TabledStore x = Stores.slotsEverywhere();
        x.number(0, 131);
        Check.due("of the first register's class", x.instance(31, 0, 0), 32);
        x.number(31, 105);
        Check.due("of the last register's class, into the first", x.instance(0, 31, 0), 6);
        Check.due("and there it is", x.value(0), 6);
        x = six();
        Check.due("over the register of the class", x.instance(1, 1, 1), 5);
        Check.due("and there it is", x.value(1), 5);
        x.instance(31, 0, 1);
        Check.due("into the last", x.value(31), 4);
    }

    private static void noSuchRegister() {
        Check.says("Promise 21: there is no such register");
        Check.badRegister("instance into", (x, r) -> x.instance(r, 0, 0));
        Check.badRegister("instance of", (x, r) -> x.instance(0, r, 0));
        Check.badRegister("none into", (x, r) -> x.instance(r, 0, 99));
        Check.badArgument("instance with neither", x -> x.instance(-1, 32, 0));
    }

    private static void kBelowZero() {
        Check.says("Promise 21: or k is below 0");
        Check.badNumbers("instance", (x, k) -> x.instance(9, 31, k), -1, -2, Integer.MIN_VALUE);
        Check.badArgument("instance -1 of a class that none has", x -> x.instance(9, 4, -1));
        Check.badArgument(() -> new TabledStore(64, 16), "instance -1 in an empty store", x -> x.instance(0, 1, -1));
        Check.badArgument("instance with nothing right", x -> x.instance(32, -1, -1));
    }
}
