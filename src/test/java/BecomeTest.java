/** Promise 18: become. */
public final class BecomeTest {
    public static void main(String[] args) {
        registersSlotsAndClasses();
        whatPointsToEachOther();
        withItself();
        twiceIsNone();
        registers();
        noSlotsAndNoBytes();
        inAFullStore();
        afterMoving();
        inTheOrderOfIdentities();
        whatBecomesUnreachable();
        noSuchRegister();
        noObject();
        Check.end();
    }

    private static void registersSlotsAndClasses() {
        Check.says("Terms: all values (registers, slots, classes) that are the one become the other");
        TabledStore x = new TabledStore(300, 16);
        x.make(0, 31, 3, true);
        x.make(1, 31, 5, false);
        x.bytePut(1, 0, 0x0102030405060708L);
        x.move(2, 0);
        x.make(3, 0, 2, true);
        x.put(3, 0, 0);
        x.put(3, 1, 1);
        x.number(4, 17);
        x.setClass(0, 4);
        int sum = x.sum(1);
        x.become(0, 1);
        Check.due("register a", x.value(0), 2);
        Check.due("its sum", x.sum(0), sum);
        Check.due("its size", x.size(0), 5);
        Check.due("register b", x.value(1), 1);
        Check.due("its kind", x.kind(1), 2);
        Check.due("a third register", x.value(2), 2);
        x.get(5, 3, 0);
        Check.due("a slot that had a", x.value(5), 2);
        x.get(5, 3, 1);
        Check.due("a slot that had b", x.value(5), 1);
        x.classOf(5, 3);
        Check.due("a class that was a", x.value(5), 2);
        x.classOf(5, 1);
        Check.due("an object's own class goes with it", x.value(5), 17);
        Check.due("an object beside them stays", x.value(3), 3);
    }

    private static void whatPointsToEachOther() {
        Check.says("Terms: and the other way round");
        TabledStore x = new TabledStore(300, 16);
        x.make(0, 31, 2, true);
        x.make(1, 0, 1, true);
        x.put(0, 0, 0);
        x.put(0, 1, 1);
        x.setClass(0, 0);
        x.become(0, 1);
        Check.due("the first is in register 1", x.value(1), 1);
        x.get(5, 1, 0);
        Check.due("what had itself has the other", x.value(5), 2);
        x.get(5, 1, 1);
        Check.due("what had the other has itself", x.value(5), 1);
        x.classOf(5, 1);
        Check.due("a class that was itself is the other", x.value(5), 2);
        x.classOf(5, 0);
        Check.due("a class that was the other is itself", x.value(5), 2);
    }

    private static void withItself() {
        Check.says("Promise 18: The objects of two registers change places");
        Check.stays(Stores::mixed, "of slots, by one register", x -> x.become(0, 0));
        Check.stays(Stores::mixed, "of bytes, by one register", x -> x.become(1, 1));
        Check.stays(Stores::mixed, "of no slots, by one register", x -> x.become(3, 3));
        Check.stays(BecomeTest::twoOfOne, "the same in two registers", x -> x.become(0, 7));
    }

    private static TabledStore twoOfOne() {
        TabledStore x = Stores.mixed();
        x.move(7, 0);
        return x;
    }

    private static void twiceIsNone() {
        Check.says("Promise 18: The objects of two registers change places");
        Check.stays(Stores::mixed, "there and back", x -> {
            x.become(0, 1);
            x.become(0, 1);
        });
        Check.stays(Stores::mixed, "there and back the other way", x -> {
            x.become(3, 4);
            x.become(4, 3);
        });
    }

    private static void registers() {
        Check.says("Promise 18: The objects of two registers");
        for (int a : new int[] {0, 31}) {
            TabledStore x = Stores.slotsEverywhere();
            x.become(a, 31 - a);
            Check.due("the first register", x.value(0), 32);
            Check.due("the last register", x.value(31), 1);
            x.get(5, 0, 0);
            Check.due("the first one's slot", x.value(5), 131);
            Check.due("register 15 stays", x.value(15), 16);
        }
    }

    private static void noSlotsAndNoBytes() {
        Check.says("Promise 18: The objects of two registers change places");
        TabledStore x = Stores.mixed();
        x.become(3, 4);
        Check.due("no bytes", x.kind(3), 3);
        Check.due("no bytes", x.value(3), 4);
        Check.due("no slots", x.kind(4), 2);
        Check.due("no slots", x.value(4), 3);
        x.get(9, 0, 1);
        Check.due("a slot that had no slots", x.value(9), 4);
        x.classOf(9, 4);
        Check.due("the class of no slots", x.value(9), 42);
        x.classOf(9, 3);
        Check.due("the class of no bytes was the other", x.value(9), 4);
    }

    /** It takes no room, whatever the two objects' sizes. */
    private static void inAFullStore() {
        Check.says("Terms: TO CHANGE PLACES two objects");
        TabledStore x = new TabledStore(64, 16);
        x.make(0, 31, 50, true);
        x.number(3, 6);
        x.put(0, 49, 3);
        x.make(1, 31, 24, false);
        Check.due("words before", x.words(), 0);
        x.become(0, 1);
        Check.due("words then", x.words(), 0);
        Check.due("size of the one", x.size(0), 24);
        Check.due("size of the other", x.size(1), 50);
        x.get(4, 1, 49);
        Check.due("its last slot", x.value(4), 6);
        x = Stores.withoutEntries();
        x.become(0, 15);
        Check.due("without entries, the first", x.value(0), 16);
        Check.due("without entries, the last", x.value(15), 1);
        Check.due("entries then", x.entries(), 0);
    }

    private static void afterMoving() {
        Check.says("Promise 18: change places (and are moved)");
        TabledStore x = new TabledStore(64, 16);
        x.make(0, 31, 10, true);
        x.make(1, 31, 2, true);
        x.make(2, 31, 9, false);
        x.bytePut(2, 0, 0x0102030405060708L);
        int sum = x.sum(2);
        x.become(1, 2);
        x.clear(0);
        Check.due("make where the row must be moved", x.make(3, 31, 41, true), 4);
        Check.due("words then", x.words(), 64 - 45 - 13);
        Check.due("register 1", x.value(1), 3);
        Check.due("its sum", x.sum(1), sum);
        Check.due("register 2", x.value(2), 2);
        Check.due("its size", x.size(2), 2);
        x.clear(1);
        Check.due("words without the one", x.words(), 64 - 45 - 6);
        Check.due("register 2 still", x.value(2), 2);
        Check.due("entries then", x.entries(), 14);
    }

    private static void inTheOrderOfIdentities() {
        Check.says("Promise 21: by identity (after become)");
        TabledStore x = new TabledStore(300, 16);
        for (int r = 0; r < 6; r++) {
            x.make(r, 31, r, true);
        }
        x.become(0, 5);
        x.become(1, 3);
        x.clear(2);
        for (int k = 0; k < 5; k++) {
            int due = k < 2 ? k + 1 : k + 2;
            Check.due("instance " + k, x.instance(9, 31, k), due);
            Check.due("and its size", x.size(9), due - 1);
        }
    }

    private static void whatBecomesUnreachable() {
        Check.says("Terms: that are the one become the other (reachable by one register each)");
        TabledStore x = new TabledStore(64, 16);
        x.make(0, 31, 1, true);
        x.make(1, 31, 20, true);
        x.put(0, 0, 1);
        x.become(0, 1);
        x.clear(1);
        Check.due("what had the other has itself, and is let go", x.words(), 40);
        Check.due("the other stays", x.value(0), 2);
    }

    private static void noSuchRegister() {
        Check.says("Promise 18: there is no such register");
        Check.badRegister("become of", (x, r) -> x.become(r, 0));
        Check.badRegister("become with", (x, r) -> x.become(0, r));
        Check.badArgument("become with neither", x -> x.become(-1, 32));
        Check.badArgument("become twice the same that is none", x -> x.become(32, 32));
    }

    private static void noObject() {
        Check.says("Promise 18: or one has no object");
        for (int r : new int[] {2, 20}) {
            Check.badArgument("become of register " + r, x -> x.become(r, 0));
            Check.badArgument("become with register " + r, x -> x.become(0, r));
            Check.badArgument("become of register " + r + " with itself", x -> x.become(r, r));
            Check.badArgument("become of register " + r + " with none", x -> x.become(r, 32));
        }
        Check.badArgument("become of a number with nil", x -> x.become(2, 20));
    }
}
