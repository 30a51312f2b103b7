/** Promises 19 words, 20 entries, and the term ROOM that they and the making of objects stand on. */
public final class RoomTest {
    public static void main(String[] args) {
        whatObjectsTake();
        whatIsReachable();
        entriesAskedFirst();
        ringsOutOfReach();
        usedOverAndOver();
        Check.end();
    }

    private static void whatObjectsTake() {
        for (int n = 0; n <= 9; n++) {
            TabledStore x = new TabledStore(100, 20);
            x.make(0, 31, n, true);
            Check.due("words beside " + n + " slots", x.words(), 96 - n);
            Check.due("entries beside it", x.entries(), 19);
            x.make(1, 31, n, false);
            Check.due("words beside as many bytes", x.words(), 92 - n - (n + 3) / 4);
            Check.due("entries beside both", x.entries(), 18);
        }
        TabledStore x = new TabledStore(100, 20);
        x.make(0, 31, x.words() - 4, true);
        Check.due("words could all be had", x.words(), 0);
    }

    private static void whatIsReachable() {
        TabledStore x = new TabledStore(100, 20);
        x.make(0, 31, 1, true);
        x.make(1, 0, 1, true);
        x.make(2, 31, 2, true);
        x.put(2, 1, 1);
        x.clear(0);
        x.clear(1);
        Check.due("words with one by slot and one by class", x.words(), 84);
        Check.due("entries", x.entries(), 17);
        x.make(3, 2, 4, false);
        x.clear(2);
        Check.due("words with all by the class of bytes", x.words(), 79);
        x.bytePut(3, 0, -1L);
        x.clear(3);
        Check.due("words with none", x.words(), 100);
        Check.due("entries with none", x.entries(), 20);
        x.make(0, 31, 1, true);
        x.make(0, 31, 2, true);
        Check.due("words after make over an object", x.words(), 94);
        x.copy(0, 0);
        Check.due("words after copy over an object", x.words(), 94);
        x.number(0, 0);
        Check.due("words after number over an object", x.words(), 100);
        x.make(0, 31, 1, true);
        x.make(1, 31, 1, true);
        x.instance(0, 31, 1);
        Check.due("words after instance over an object", x.words(), 95);
        x.setClass(0, 0);
        x.make(2, 0, 4, true);
        x.classOf(2, 2);
        Check.due("words after classOf over an object", x.words(), 95);
        x.put(0, 0, 31);
        x.get(0, 0, 0);
        x.clear(1);
        x.clear(2);
        Check.due("words after get over an object", x.words(), 100);
    }

    /** entries is asked first here, before another call could have looked at what is reachable. */
    private static void entriesAskedFirst() {
        TabledStore x = new TabledStore(100, 20);
        x.chain(0, 31, 1, 5);
        Check.due("entries beside five", x.entries(), 15);
        x.walk(0, 0, 2);
        Check.due("entries beside three", x.entries(), 17);
        x.clear(0);
        Check.due("entries beside none", x.entries(), 20);
    }

    private static void ringsOutOfReach() {
        TabledStore x = new TabledStore(100, 20);
        x.make(0, 31, 1, true);
        x.make(1, 0, 1, true);
        x.put(0, 0, 1);
        x.put(1, 0, 0);
        x.setClass(0, 0);
        x.clear(0);
        Check.due("words with a ring", x.words(), 90);
        x.clear(1);
        Check.due("words without the ring", x.words(), 100);
        Check.due("entries without the ring", x.entries(), 20);
    }

    /** Far more is made than there is room for, and what is kept stays as it was. */
    private static void usedOverAndOver() {
        TabledStore x = new TabledStore(256, 16);
        x.make(0, 31, 3, true);
        x.make(1, 0, 16, false);
        x.bytePut(1, 3, 0x7172737475767778L);
        x.put(0, 2, 1);
        int sum = x.sum(1);
        for (int i = 0; i < 200; i++) {
            Check.due("make over and over", x.make(5, 5, 40 + i % 7, i % 2 == 0), i + 3);
            x.clear(5);
        }
        x.get(6, 0, 2);
        Check.due("a slot then", x.value(6), 2);
        Check.due("a sum then", x.sum(6), sum);
        Check.due("words then", x.words(), 256 - 7 - 8);
        Check.due("entries then", x.entries(), 14);
    }
}
