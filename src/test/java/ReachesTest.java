/** Promise 23: reaches. */
public final class ReachesTest {
    public static void main(String[] args) {
        itself();
        byClassesAndSlots();
        firstAndLastSlot();
        notByRegisters();
        notByBytesNorNumbers();
        inRings();
        farOff();
        unreachableBetween();
        registers();
        changesNothing();
        noSuchRegister();
        noObject();
        Check.end();
    }

    private static void itself() {
        Check.says("Promise 23: an object from itself, too");
        for (int r : new int[] {0, 1, 3, 4}) {
            TabledStore x = Stores.mixed();
            Check.due("register " + r, x.reaches(r, r), true);
            x.move(30, r);
            Check.due("by another register", x.reaches(30, r), true);
        }
    }

    private static void byClassesAndSlots() {
        Check.says("Promise 23: Whether register b's object can be reached from register a's, by classes and slots");
        TabledStore x = new TabledStore(300, 20);
        for (int r = 0; r < 6; r++) {
            x.make(r, 31, 2, r != 5);
        }
        x.put(0, 1, 1);
        x.setClass(1, 2);
        x.put(2, 0, 3);
        x.setClass(3, 5);
        x.setClass(5, 0);
        Check.due("by a slot", x.reaches(0, 1), true);
        Check.due("by a class", x.reaches(1, 2), true);
        Check.due("by slots and classes", x.reaches(0, 5), true);
        Check.due("by the class of bytes, in a ring", x.reaches(5, 3), true);
        Check.due("not from one that has nothing", x.reaches(4, 0), false);
        Check.due("nor to one that none has", x.reaches(0, 4), false);
        x.setClass(5, 31);
        Check.due("not back any more", x.reaches(3, 0), false);
        Check.due("and forth still", x.reaches(0, 3), true);
    }

    private static void firstAndLastSlot() {
        Check.says("Promise 23: by classes and slots");
        for (int n : new int[] {1, 2, 4000}) {
            for (int i : new int[] {0, n - 1}) {
                TabledStore x = Stores.largest();
                x.make(0, 31, n, true);
                x.make(1, 31, 0, false);
                Check.due("before it is put", x.reaches(0, 1), false);
                x.put(0, i, 1);
                Check.due("by slot " + i + " of " + n, x.reaches(0, 1), true);
                Check.due("and not back", x.reaches(1, 0), false);
                x.put(0, i, 31);
                Check.due("when it is gone", x.reaches(0, 1), false);
            }
        }
    }

    private static void notByRegisters() {
        Check.says("Promise 23: by classes and slots");
        TabledStore x = new TabledStore(64, 16);
        x.make(0, 31, 1, true);
        x.make(1, 31, 1, true);
        x.make(2, 31, 2, true);
        x.put(2, 0, 0);
        x.put(2, 1, 1);
        Check.due("two that a third has", x.reaches(0, 1), false);
        Check.due("the third has them", x.reaches(2, 1), true);
    }

    private static void notByBytesNorNumbers() {
        Check.says("Promise 23: by classes and slots");
        TabledStore x = new TabledStore(64, 16);
        x.make(0, 31, 40, false);
        x.make(1, 31, 1, true);
        for (int i = 0; i < 40; i++) {
            x.bytePut(0, i, (long) i << 56);
        }
        Check.due("by bytes", x.reaches(0, 1), false);
        x.make(0, 31, 8, true);
        for (int i = 0; i < 8; i++) {
            x.number(2, i);
            x.put(0, i, 2);
        }
        x.setClass(0, 2);
        Check.due("by numbers", x.reaches(0, 1), false);
    }

    private static void inRings() {
        Check.says("Promise 23: can be reached");
        TabledStore x = new TabledStore(64, 16);
        for (int r = 0; r < 3; r++) {
            x.make(r, 31, 1, true);
        }
        for (int r = 0; r < 3; r++) {
            x.put(r, 0, (r + 1) % 3);
            x.setClass(r, r);
        }
        x.make(3, 31, 0, true);
        for (int a = 0; a < 3; a++) {
            for (int b = 0; b < 3; b++) {
                Check.due("in a ring, " + a + " to " + b, x.reaches(a, b), true);
            }
            Check.due("out of the ring", x.reaches(a, 3), false);
        }
    }

    private static void farOff() {
        Check.says("Promise 23: can be reached");
        TabledStore x = Stores.largest();
        x.chain(0, 31, 1, 4000);
        x.chain(0, 31, 1, 4000);
        x.chain(0, 31, 1, 192);
        x.instance(1, 31, 0);
        Check.due("along all entries, by slots", x.reaches(0, 1), true);
        Check.due("and not back", x.reaches(1, 0), false);
        x = Stores.largest();
        x.chain(0, 0, 1, 4000);
        x.move(1, 0);
        x.walk(1, 0, 3999);
        x.put(0, 0, 31);
        Check.due("along a chain, by the last one's class", x.reaches(0, 1), true);
    }

    /** What is only asked for is not let go: the object between has no register of its own. */
    private static void unreachableBetween() {
        Check.says("Promise 23: can be reached from register a's");
        TabledStore x = new TabledStore(64, 16);
        x.make(0, 31, 1, true);
        x.make(1, 0, 0, false);
        x.make(2, 31, 1, true);
        x.put(2, 0, 1);
        x.clear(1);
        Check.due("by one that has no register", x.reaches(2, 0), true);
        x.make(1, 31, 1, true);
        x.put(1, 0, 0);
        x.clear(1);
        x.clear(2);
        Check.due("words after what is not reachable any more", x.words(), 59);
        Check.due("itself still", x.reaches(0, 0), true);
    }

    private static void registers() {
        Check.says("Promise 23: register b's object .. register a's");
        TabledStore x = Stores.slotsEverywhere();
        x.put(31, 1, 0);
        Check.due("from the last to the first", x.reaches(31, 0), true);
        Check.due("from the first to the last", x.reaches(0, 31), false);
    }

    private static void changesNothing() {
        Check.says("Promise 23: Whether (asking changes nothing)");
        Check.stays(Stores::mixed, "reaches, true", x -> x.reaches(0, 3));
        Check.stays(Stores::mixed, "reaches, false", x -> x.reaches(3, 0));
        Check.stays(Stores::withoutWords, "reaches without words", x -> x.reaches(0, 0));
        Check.stays(Stores::withoutEntries, "reaches without entries", x -> x.reaches(0, 15));
    }

    private static void noSuchRegister() {
        Check.says("Promise 23: there is no such register");
        Check.badRegister("reaches from", (x, r) -> x.reaches(r, 0));
        Check.badRegister("reaches to", (x, r) -> x.reaches(0, r));
        Check.badArgument("reaches with neither", x -> x.reaches(32, 32));
    }

    private static void noObject() {
        Check.says("Promise 23: or one has no object");
        for (int r : new int[] {2, 20}) {
            Check.badArgument("reaches from register " + r, x -> x.reaches(r, 0));
            Check.badArgument("reaches to register " + r, x -> x.reaches(0, r));
            Check.badArgument("reaches from register " + r + " to itself", x -> x.reaches(r, r));
        }
    }
}
