/** Promise 22: owners. */
public final class OwnersTest {
    public static void main(String[] args) {
        ofNil();
        ofNumbers();
        ofObjects();
        ofReachableObjects();
        bytesOwnNothing();
        most();
        registers();
        noSuchRegister();
        Check.end();
    }

    private static void ofNil() {
        Check.says("Promise 22: How many registers .. have what register r has (nil)");
        TabledStore x = new TabledStore(64, 16);
        Check.due("in an empty store", x.owners(0), 32);
        x.number(0, 0);
        Check.due("beside the number 0", x.owners(1), 31);
        x.make(0, 31, 60, true);
        Check.due("in a full store", x.owners(31), 31 + 60 + 1);
    }

    private static void ofNumbers() {
        Check.says("Promise 22: How many registers, and slots and classes of reachable objects (a number)");
        for (int v : new int[] {0, 1, -1, 1073741823, -1073741824}) {
            TabledStore x = new TabledStore(64, 16);
            x.number(0, v);
            Check.due("one register has " + v, x.owners(0), 1);
            x.move(31, 0);
            Check.due("two registers", x.owners(0), 2);
            x.make(1, 0, 3, true);
            Check.due("and a class", x.owners(0), 3);
            x.put(1, 0, 0);
            x.put(1, 2, 0);
            Check.due("and two slots", x.owners(31), 5);
            x.make(2, 0, 3, false);
            Check.due("and the class of bytes", x.owners(0), 6);
        }
    }

    private static void ofObjects() {
        Check.says("Promise 22: How many registers, and slots and classes of reachable objects (an object)");
        TabledStore x = new TabledStore(300, 20);
        x.make(0, 31, 3, true);
        Check.due("one register", x.owners(0), 1);
        x.make(1, 0, 8, false);
        Check.due("and the class of bytes", x.owners(0), 2);
        x.put(0, 0, 0);
        x.put(0, 2, 0);
        Check.due("and slots of its own", x.owners(0), 4);
        x.setClass(0, 0);
        Check.due("and the class of its own", x.owners(0), 5);
        x.copy(2, 0);
        Check.due("and those of its copy", x.owners(0), 8);
        Check.due("the copy itself", x.owners(2), 1);
        x.become(0, 2);
        Check.due("the other after they changed places", x.owners(0), 8);
        Check.due("and what was it", x.owners(2), 1);
    }

    private static void ofReachableObjects() {
        Check.says("Promise 22: of reachable objects");
        TabledStore x = new TabledStore(300, 20);
        x.make(0, 31, 1, true);
        x.make(3, 0, 2, true);
        x.put(3, 0, 0);
        Check.due("with another object's", x.owners(0), 3);
        Check.due("nil with another object's", x.owners(31), 30 + 2 + 1);
        x.clear(3);
        Check.due("without them", x.owners(0), 1);
        Check.due("nil without them", x.owners(31), 31 + 2);
    }

    private static void bytesOwnNothing() {
        Check.says("Promise 22: slots and classes");
        TabledStore x = new TabledStore(64, 16);
        x.make(0, 31, 4, false);
        x.make(1, 31, 40, false);
        for (int i = 0; i < 40; i++) {
            x.bytePut(1, i, (long) i << 56);
        }
        for (int v = 0; v < 40; v++) {
            x.number(2, v);
            Check.due("number " + v, x.owners(2), 1);
        }
        Check.due("an object", x.owners(0), 1);
        Check.due("nil", x.owners(31), 29 + 2);
    }

    private static void most() {
        Check.says("Promise 22: How many");
        TabledStore x = Stores.largest();
        x.number(31, 9);
        for (int r = 0; r < 16; r++) {
            x.make(r, 31, 4000, true);
        }
        Check.due("nil in the most slots", x.owners(30), 64000 + 15);
        Check.due("a class of sixteen", x.owners(31), 17);
        x = Stores.largest();
        x.chain(0, 31, 1, 4000);
        x.move(1, 0);
        x.chain(1, 0, 1, 4000);
        Check.due("a class of four thousand", x.owners(0), 4000 + 2);
    }

    private static void registers() {
        Check.says("Promise 22: what register r has");
        TabledStore x = Stores.slotsEverywhere();
        for (int r : new int[] {0, 31}) {
            Check.due("register " + r, x.owners(r), 1);
            x.number(15, 100 + r);
            Check.due("its class and its slot and a register", x.owners(15), 3);
        }
        x.move(15, 31);
        x.move(16, 31);
        Check.due("the last after moves", x.owners(31), 3);
        Check.stays(Stores::mixed, "owners", y -> y.owners(0));
    }

    private static void noSuchRegister() {
        Check.says("Promise 22: there is no such register");
        Check.badRegister("owners", (x, r) -> x.owners(r));
    }
}
