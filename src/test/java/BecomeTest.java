/** Promise 18: become. */
public final class BecomeTest {
    public static void main(String[] args) {
        registersSlotsAndClasses();
        whatPointsToEachOther();
        withItself();
        afterMoving();
        inTheOrderOfIdentities();
        refused();
        Check.end();
    }

    private static void registersSlotsAndClasses() {
        TabledStore x = new TabledStore(300, 16);
        x.make(0, 31, 3, true);
        x.make(1, 31, 5, false);
        x.bytePut(1, 0, 0x0102030405060708L);
        x.move(2, 0);
        x.make(3, 0, 2, true);
        x.put(3, 0, 0);
        x.put(3, 1, 1);
        x.number(4, 17);
        x.setClass(0, 4);
        int sum = x.sum(1);
        x.become(0, 1);
        Check.due("register a", x.value(0), 2);
        Check.due("its sum", x.sum(0), sum);
        Check.due("its size", x.size(0), 5);
        Check.due("register b", x.value(1), 1);
        Check.due("its kind", x.kind(1), 2);
        Check.due("a third register", x.value(2), 2);
        x.get(5, 3, 0);
        Check.due("a slot that had a", x.value(5), 2);
        x.get(5, 3, 1);
        Check.due("a slot that had b", x.value(5), 1);
        x.classOf(5, 3);
        Check.due("a class that was a", x.value(5), 2);
        x.classOf(5, 1);
        Check.due("an object's own class goes with it", x.value(5), 17);
        x.become(1, 0);
        Check.due("register a again", x.value(0), 1);
        Check.due("register b again", x.value(1), 2);
    }

    /** Their own slots and classes are values like all others. */
    private static void whatPointsToEachOther() {
        TabledStore x = new TabledStore(300, 16);
        x.make(0, 31, 2, true);
        x.make(1, 0, 1, true);
        x.put(0, 0, 0);
        x.put(0, 1, 1);
        x.setClass(0, 0);
        x.become(0, 1);
        Check.due("the first is in register 1", x.value(1), 1);
        x.get(5, 1, 0);
        Check.due("what had itself has the other", x.value(5), 2);
        x.get(5, 1, 1);
        Check.due("what had the other has itself", x.value(5), 1);
        x.classOf(5, 1);
        Check.due("a class that was itself is the other", x.value(5), 2);
        x.classOf(5, 0);
        Check.due("a class that was the other is itself", x.value(5), 2);
    }

    private static void withItself() {
        TabledStore x = Check.filled();
        String before = Check.state(x);
        x.become(0, 0);
        Check.due("become with itself", Check.state(x), before);
    }

    private static void afterMoving() {
        TabledStore x = new TabledStore(64, 16);
        x.make(0, 31, 10, true);
        x.make(1, 31, 2, true);
        x.make(2, 31, 9, false);
        x.bytePut(2, 0, 0x0102030405060708L);
        int sum = x.sum(2);
        x.become(1, 2);
        x.clear(0);
        Check.due("make where the row must be moved", x.make(3, 31, 41, true), 4);
        Check.due("words then", x.words(), 64 - 45 - 13);
        Check.due("register 1", x.value(1), 3);
        Check.due("its sum", x.sum(1), sum);
        Check.due("register 2", x.value(2), 2);
        Check.due("its size", x.size(2), 2);
        x.clear(1);
        Check.due("words without the one", x.words(), 64 - 45 - 6);
        Check.due("register 2 still", x.value(2), 2);
        Check.due("entries then", x.entries(), 14);
    }

    private static void inTheOrderOfIdentities() {
        TabledStore x = new TabledStore(300, 16);
        for (int r = 0; r < 6; r++) {
            x.make(r, 31, r, true);
        }
        x.become(0, 5);
        x.become(1, 3);
        x.clear(2);
        for (int k = 0; k < 5; k++) {
            int due = k < 2 ? k + 1 : k + 2;
            Check.due("instance " + k + " after become", x.instance(9, 31, k), due);
            Check.due("and its size", x.size(9), due - 1);
        }
    }

    private static void refused() {
        Check.badRegister("become of", (y, r) -> y.become(r, 0));
        Check.badRegister("become with", (y, r) -> y.become(0, r));
        for (int r : new int[] {2, 20}) {
            Check.badArgument("become of register " + r, y -> y.become(r, 0));
            Check.badArgument("become with register " + r, y -> y.become(0, r));
        }
    }
}
