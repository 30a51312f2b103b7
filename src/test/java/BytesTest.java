/** Promises 13 byteAt, 14 bytePut, 24 sum. */
public final class BytesTest {
    private static final int[] NO_INDEX = {-1, 10, 11, Integer.MIN_VALUE, Integer.MAX_VALUE};

    public static void main(String[] args) {
        everyPlace();
        highBytes();
        refused();
        sum();
        Check.end();
    }

    /** bytePut at each place of objects of each small size, between two others that must stay. */
    private static void everyPlace() {
        for (int size = 1; size <= 20; size++) {
            for (int i = 0; i < size; i++) {
                TabledStore x = new TabledStore(100, 16);
                x.make(0, 31, 3, false);
                x.make(1, 31, size, false);
                x.make(2, 31, 3, true);
                x.bytePut(1, 0, 0x5152535455565758L);
                x.bytePut(1, i, 0x8182838485868788L);
                for (int k = 0; k < size; k++) {
                    int due = k >= i && k < i + 8 ? 0x81 + k - i : k < 8 ? 0x51 + k : 0;
                    Check.due("byte " + k + " of " + size + " after bytePut at " + i, x.byteAt(1, k), due);
                }
                Check.due("the bytes before", x.sum(0), 7 * 31 * 31 * 31);
                Check.due("the slots behind", x.owners(31), 3 + 29 + 3);
                Check.due("size", x.size(1), size);
                Check.due("identity behind", x.value(2), 3);
            }
        }
    }

    private static void highBytes() {
        TabledStore x = new TabledStore(100, 16);
        x.make(0, 31, 8, false);
        x.bytePut(0, 0, -1L);
        for (int i = 0; i < 8; i++) {
            Check.due("byte 255", x.byteAt(0, i), 255);
        }
        x.bytePut(0, 0, Long.MIN_VALUE);
        Check.due("the highest byte first", x.byteAt(0, 0), 128);
        Check.due("the lowest last", x.byteAt(0, 7), 0);
        x.bytePut(0, 0, 0xfeL);
        Check.due("the highest byte first", x.byteAt(0, 0), 0);
        Check.due("the lowest last", x.byteAt(0, 7), 254);
    }

    private static void refused() {
        Check.badRegister("byteAt", (y, r) -> y.byteAt(r, 0));
        Check.badRegister("bytePut", (y, r) -> y.bytePut(r, 0, 1L));
        for (int r : new int[] {0, 2, 3, 20}) {
            Check.badArgument("byteAt of register " + r, y -> y.byteAt(r, 0));
            Check.badArgument("bytePut of register " + r, y -> y.bytePut(r, 0, 1L));
            Check.badArgument("byteAt of register " + r + " without the byte", y -> y.byteAt(r, -1));
            Check.badArgument("bytePut of register " + r + " without the byte", y -> y.bytePut(r, -1, 1L));
        }
        for (int i : NO_INDEX) {
            Check.badIndex("byteAt " + i, y -> y.byteAt(1, i));
            Check.badIndex("bytePut " + i, y -> y.bytePut(1, i, -1L));
        }
        Check.badIndex("byteAt of no bytes", y -> y.byteAt(4, 0));
        Check.badIndex("bytePut of no bytes", y -> y.bytePut(4, 0, -1L));
    }

    private static void sum() {
        TabledStore x = Check.filled();
        int due = 7;
        for (int b : new int[] {0, 0x11, 0x22, 0x33, 0x44, 0x55, 0x66, 0x77, 0x88, 0}) {
            due = 31 * due + b;
        }
        Check.due("sum", x.sum(1), due);
        Check.due("sum of no bytes", x.sum(4), 7);
        Check.due("sum of slots", x.sum(0), 0);
        Check.due("sum of no slots", x.sum(3), 0);
        Check.due("sum of a number", x.sum(2), 0);
        Check.due("sum of nil", x.sum(20), 0);
        x.make(5, 31, 1, false);
        x.bytePut(5, 0, -1L);
        Check.due("sum of one byte", x.sum(5), 31 * 7 + 255);
        Check.badRegister("sum", (y, r) -> y.sum(r));
    }
}
