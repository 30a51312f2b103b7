/** Promises 21 instance, 22 owners, 23 reaches. */
public final class FindingTest {
    public static void main(String[] args) {
        instance();
        instanceOfWhatIsReachable();
        instanceRefused();
        owners();
        reaches();
        reachesRefused();
        Check.end();
    }

    private static void instance() {
        TabledStore x = new TabledStore(300, 20);
        x.number(0, 4);
        x.make(1, 31, 0, true);
        x.make(2, 0, 1, true);
        x.make(3, 1, 2, false);
        x.make(4, 0, 3, false);
        x.make(5, 1, 4, true);
        x.make(6, 6, 5, true);
        Check.due("the first of class 4", x.instance(9, 0, 0), 2);
        Check.due("and in the register", x.value(9), 2);
        Check.due("the second of class 4", x.instance(9, 0, 1), 4);
        Check.due("and its kind", x.kind(9), 3);
        Check.due("the third of class 4", x.instance(9, 0, 2), 0);
        Check.due("the register stays", x.value(9), 4);
        Check.due("the first of an object's class", x.instance(9, 1, 0), 3);
        Check.due("the second", x.instance(9, 1, 1), 5);
        Check.due("the first of class nil", x.instance(9, 31, 0), 1);
        Check.due("the second of class nil", x.instance(9, 31, 1), 6);
        Check.due("one of a class that none has", x.instance(9, 6, 0), 0);
        Check.due("the last that could be asked for", x.instance(9, 31, Integer.MAX_VALUE), 0);
        Check.due("over the register of the class", x.instance(1, 1, 1), 5);
        x.setClass(2, 2);
        Check.due("its own class", x.instance(9, 2, 0), 2);
        x.number(10, 0);
        Check.due("the number 0 is not nil", x.instance(9, 10, 0), 0);
    }

    private static void instanceOfWhatIsReachable() {
        TabledStore x = new TabledStore(300, 20);
        x.make(0, 31, 1, true);
        x.make(1, 31, 1, true);
        x.make(2, 31, 1, true);
        x.put(2, 0, 1);
        x.clear(0);
        x.clear(1);
        Check.due("the first reachable", x.instance(9, 31, 0), 2);
        Check.due("the second", x.instance(9, 31, 1), 3);
        Check.due("no third", x.instance(9, 31, 2), 0);
        x.clear(2);
        Check.due("reachable by the register itself", x.instance(9, 31, 0), 2);
        Check.due("and it alone then", x.instance(9, 31, 1), 0);
    }

    private static void instanceRefused() {
        Check.badRegister("instance into", (y, r) -> y.instance(r, 0, 0));
        Check.badRegister("instance of", (y, r) -> y.instance(0, r, 0));
        Check.badArgument("instance -1", y -> y.instance(0, 0, -1));
        Check.badArgument("instance of the lowest", y -> y.instance(0, 0, Integer.MIN_VALUE));
    }

    private static void owners() {
        TabledStore x = new TabledStore(300, 20);
        Check.due("owners of nil in a new store", x.owners(0), 32);
        x.make(0, 31, 3, true);
        x.make(1, 0, 8, false);
        x.number(2, 1);
        x.put(0, 0, 0);
        x.put(0, 1, 2);
        x.setClass(0, 0);
        Check.due("owners of a", x.owners(0), 4);
        Check.due("owners of b", x.owners(1), 1);
        Check.due("owners of 1", x.owners(2), 2);
        Check.due("owners of nil", x.owners(31), 29 + 1);
        x.bytePut(1, 0, 0x0000000300000003L);
        Check.due("bytes own nothing", x.owners(2), 2);
        x.make(3, 0, 2, true);
        x.put(3, 0, 0);
        Check.due("owners of a with a third object", x.owners(0), 6);
        x.clear(3);
        Check.due("owners of a without it", x.owners(0), 4);
        x.number(3, -1);
        Check.due("owners of -1", x.owners(3), 1);
        Check.badRegister("owners", (y, r) -> y.owners(r));
    }

    private static void reaches() {
        TabledStore x = new TabledStore(300, 20);
        for (int r = 0; r < 6; r++) {
            x.make(r, 31, 2, r != 5);
        }
        x.put(0, 1, 1);
        x.setClass(1, 2);
        x.put(2, 0, 3);
        x.setClass(3, 5);
        x.setClass(5, 0);
        Check.due("itself", x.reaches(4, 4), true);
        Check.due("itself, of bytes", x.reaches(5, 5), true);
        Check.due("by a slot", x.reaches(0, 1), true);
        Check.due("by a class", x.reaches(1, 2), true);
        Check.due("by slots and classes", x.reaches(0, 5), true);
        Check.due("by the class of bytes, in a ring", x.reaches(5, 3), true);
        Check.due("not the other way", x.reaches(4, 0), false);
        Check.due("nor this", x.reaches(0, 4), false);
        x.setClass(5, 31);
        Check.due("not back any more", x.reaches(3, 0), false);
        Check.due("and forth still", x.reaches(0, 3), true);
        Check.due("words are as they were", x.words(), 300 - 5 * 6 - 5);
        TabledStore wide = new TabledStore(0, 0);
        wide.chain(0, 31, 1, 4000);
        wide.move(1, 0);
        wide.walk(1, 0, 3999);
        Check.due("along a long chain", wide.reaches(0, 1), true);
        Check.due("and not back", wide.reaches(1, 0), false);
    }

    private static void reachesRefused() {
        Check.badRegister("reaches from", (y, r) -> y.reaches(r, 0));
        Check.badRegister("reaches to", (y, r) -> y.reaches(0, r));
        for (int r : new int[] {2, 20}) {
            Check.badArgument("reaches from register " + r, y -> y.reaches(r, 0));
            Check.badArgument("reaches to register " + r, y -> y.reaches(0, r));
        }
    }
}
