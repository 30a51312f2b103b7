/** Promise 10: walk. */
public final class WalkTest {
    public static void main(String[] args) {
        howOften();
        tillTheEnd();
        most();
        otherSlots();
        anyNumber();
        noSuchSlotAnyMore();
        fromWhatHasNoSlots();
        toWhatHasNoSlots();
        letsGo();
        registers();
        noSuchRegister();
        noSuchN();
        Check.end();
    }

    private static TabledStore chainOfFour() {
        TabledStore x = new TabledStore(200, 16);
        x.chain(0, 31, 2, 4);
        return x;
    }

    private static void howOften() {
        Check.says("Promise 10: n times (0 .. 10000) over .. Answers how often");
        int[] due = {4, 3, 2, 1};
        for (int n = 0; n < 4; n++) {
            TabledStore x = chainOfFour();
            Check.due("walk of " + n, x.walk(0, 0, n), n);
            Check.due("and where it is", x.value(0), due[n]);
        }
        Check.stays(WalkTest::chainOfFour, "walk of none", x -> x.walk(0, 0, 0));
    }

    private static void tillTheEnd() {
        Check.says("Promise 10: as long as it has an object with such a slot");
        for (int n : new int[] {4, 5, 10000}) {
            TabledStore x = chainOfFour();
            Check.due("walk of " + n, x.walk(0, 0, n), 4);
            Check.due("and where it is", x.kind(0), 0);
            Check.due("walk from the end", x.walk(0, 0, n), 0);
        }
    }

    private static void most() {
        Check.says("Promise 10: n times (0 .. 10000) over");
        TabledStore x = chainOfFour();
        x.put(0, 1, 0);
        for (int n : new int[] {0, 1, 9999, 10000}) {
            Check.due("walk in a ring, of " + n, x.walk(0, 1, n), n);
            Check.due("and where it is", x.value(0), 4);
        }
        x = Stores.largest();
        x.chain(0, 31, 1, 4000);
        x.move(1, 0);
        x.chain(0, 31, 1, 4000);
        x.move(2, 0);
        Check.due("walk of 7999 steps", x.walk(2, 0, 7999), 7999);
        Check.due("and where it is", x.value(2), 1);
        Check.due("walk of all steps", x.walk(0, 0, 10000), 8000);
        Check.due("walk of half the steps", x.walk(1, 0, 2000), 2000);
        Check.due("and where it is", x.value(1), 2000);
    }

    private static void otherSlots() {
        Check.says("Promise 10: what slot i (any number) of that has");
        TabledStore x = new TabledStore(300, 16);
        x.make(0, 31, 5, true);
        x.make(1, 31, 5, true);
        for (int i = 0; i < 5; i++) {
            x.number(2, 70 + i);
            x.put(0, i, 1);
            x.put(1, i, 2);
        }
        for (int i = 0; i < 5; i++) {
            x.move(3, 0);
            Check.due("walk by slot " + i, x.walk(3, i, 9), 2);
            Check.due("and where it is", x.value(3), 70 + i);
        }
    }

    private static void anyNumber() {
        Check.says("Promise 10: slot i (any number)");
        for (int i : new int[] {2, 3, 4000, -1, -2, Integer.MAX_VALUE, Integer.MIN_VALUE}) {
            Check.due("walk by slot " + i, chainOfFour().walk(0, i, 10000), 0);
            Check.stays(WalkTest::chainOfFour, "walk by slot " + i, x -> x.walk(0, i, 10000));
        }
        TabledStore x = chainOfFour();
        Check.due("walk by the last slot there is", x.walk(0, 1, 10000), 1);
    }

    private static void noSuchSlotAnyMore() {
        Check.says("Promise 10: as long as it has an object with such a slot");
        TabledStore x = new TabledStore(300, 16);
        for (int n = 1; n <= 5; n++) {
            x.move(1, 0);
            x.make(0, 31, n, true);
            for (int i = 0; i < n; i++) {
                x.put(0, i, 1);
            }
        }
        for (int i = 0; i < 5; i++) {
            x.move(2, 0);
            Check.due("walk by slot " + i, x.walk(2, i, 10000), 5 - i);
            Check.due("and the one without such a slot", x.value(2), i);
        }
        x.make(3, 31, 0, true);
        Check.due("walk from no slots", x.walk(3, 0, 5), 0);
        Check.due("and where it is", x.value(3), 6);
    }

    private static void fromWhatHasNoSlots() {
        Check.says("Promise 10: as long as it has an object with such a slot");
        for (int r : new int[] {1, 2, 3, 4, 20}) {
            Check.due("walk from register " + r, Stores.mixed().walk(r, 0, 10000), 0);
            Check.stays(Stores::mixed, "walk from register " + r, x -> x.walk(r, 0, 10000));
        }
    }

    private static void toWhatHasNoSlots() {
        Check.says("Promise 10: as long as it has an object with such a slot");
        int[] due = {2, 42, 3, 4};
        for (int from = 1; from <= 4; from++) {
            TabledStore x = Stores.mixed();
            x.put(0, 2, from);
            Check.due("walk to what register " + from + " has", x.walk(0, 2, 5), 1);
            Check.due("and where it is", x.value(0), due[from - 1]);
        }
    }

    private static void letsGo() {
        Check.says("Terms: (What is not reachable any more takes none.) (walk)");
        TabledStore x = chainOfFour();
        x.walk(0, 0, 1);
        Check.due("words without the last", x.words(), 200 - 18);
        x.walk(0, 0, 3);
        Check.due("words without any", x.words(), 200);
    }

    private static void registers() {
        Check.says("Promise 10: Register r becomes");
        for (int r : new int[] {0, 31}) {
            TabledStore x = Stores.slotsEverywhere();
            Check.due("walk of register " + r, x.walk(r, 0, 3), 1);
            Check.due("and where it is", x.value(r), 100 + r);
        }
    }

    private static void noSuchRegister() {
        Check.says("Promise 10: there is no such register");
        Check.badRegister("walk", (x, r) -> x.walk(r, 0, 1));
        Check.badRegister("walk of none", (x, r) -> x.walk(r, 0, 0));
        Check.badRegister("walk by no slot", (x, r) -> x.walk(r, -1, 1));
    }

    private static void noSuchN() {
        Check.says("Promise 10: there is no such register or n");
        int[] bad = {-1, 10001, Integer.MIN_VALUE, Integer.MAX_VALUE};
        Check.badNumbers("walk, n", (x, n) -> x.walk(0, 1, n), bad);
        Check.badNumbers("walk by no slot, n", (x, n) -> x.walk(0, -1, n), bad);
        Check.badNumbers("walk from nil, n", (x, n) -> x.walk(20, 0, n), bad);
        Check.badArgument("walk with neither", x -> x.walk(32, 0, 10001));
    }
}
