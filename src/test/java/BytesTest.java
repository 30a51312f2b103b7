/** Promises 13 byteAt, 14 bytePut, 24 sum. */
public final class BytesTest {
    private static final int[] OUTSIDE_OF_TEN = {-1, 10, 11, Integer.MIN_VALUE, Integer.MAX_VALUE};

    public static void main(String[] args) {
        byteAt();
        byteAtLast();
        byteAtNoSuchRegister();
        byteAtNoBytes();
        byteAtNoSuchByte();
        byteAtFirstNamed();
        bytePut();
        highestFirst();
        bytesBehindTheEnd();
        bytePutRegisters();
        bytePutNoSuchRegister();
        bytePutNoBytes();
        bytePutNoSuchByte();
        bytePutFirstNamed();
        sum();
        sumOfNoBytes();
        sumOfNoObjectOfBytes();
        sumsThatRunOver();
        sumNoSuchRegister();
        Check.end();
    }

    private static void byteAt() {
        Check.says("Promise 13: A byte of register r's object");
        TabledStore x = Stores.mixed();
        int[] due = {0, 0x11, 0x22, 0x33, 0x44, 0x55, 0x66, 0x77, 0x88, 0};
        for (int i = 0; i < due.length; i++) {
            Check.due("byte " + i, x.byteAt(1, i), due[i]);
        }
        Check.stays(Stores::mixed, "byteAt", y -> y.byteAt(1, 0));
        x = Stores.bytesEverywhere();
        for (int r : new int[] {0, 31}) {
            Check.due("byte of register " + r, x.byteAt(r, 8), 100 + r);
        }
    }

    private static void byteAtLast() {
        Check.says("Promise 13: A byte of register r's object");
        for (int n : new int[] {1, 3, 4, 5, 16000}) {
            TabledStore x = Stores.largest();
            x.make(0, 31, n, false);
            x.bytePut(0, n - 1, 0xee00000000000000L);
            Check.due("the last of " + n, x.byteAt(0, n - 1), 0xee);
            Check.due("the first of " + n, x.byteAt(0, 0), n == 1 ? 0xee : 0);
            Check.due("behind the last of " + n, Check.thrown(x, y -> y.byteAt(0, n)), Check.BAD_INDEX);
            Check.due("before the first of " + n, Check.thrown(x, y -> y.byteAt(0, -1)), Check.BAD_INDEX);
        }
    }

    private static void byteAtNoSuchRegister() {
        Check.says("Promise 13: there is no such register");
        Check.badRegister("byteAt", (x, r) -> x.byteAt(r, 0));
    }

    private static void byteAtNoBytes() {
        Check.says("Promise 13: or it has no object of bytes");
        for (int r : new int[] {0, 2, 3, 20}) {
            Check.badArgument("byteAt of register " + r, x -> x.byteAt(r, 0));
        }
    }

    private static void byteAtNoSuchByte() {
        Check.says("Promise 13: IndexOutOfBoundsException: it has no such byte");
        for (int i : OUTSIDE_OF_TEN) {
            Check.badIndex(Stores::mixed, "byteAt of ten, byte " + i, x -> x.byteAt(1, i));
        }
        for (int i : new int[] {-1, 0, 1}) {
            Check.badIndex(Stores::mixed, "byteAt of none, byte " + i, x -> x.byteAt(4, i));
        }
    }

    private static void byteAtFirstNamed() {
        Check.says("Terms: the one named first when several would do (byteAt)");
        for (int i : new int[] {-1, 99}) {
            Check.badRegister("byte " + i + " of", (x, r) -> x.byteAt(r, i));
            for (int r : new int[] {0, 2, 3, 20}) {
                Check.badArgument("byte " + i + " of register " + r, x -> x.byteAt(r, i));
            }
        }
    }

    /** At each place of objects of each small size, between two others that must stay. */
    private static void bytePut() {
        Check.says("Promise 14: Eight bytes of register r's object from byte i on become those of a long");
        for (int size = 1; size <= 20; size++) {
            for (int i = 0; i < size; i++) {
                TabledStore x = new TabledStore(100, 16);
                x.make(0, 31, 3, false);
                x.make(1, 31, size, false);
                x.make(2, 31, 3, true);
                x.bytePut(1, 0, 0x5152535455565758L);
                x.bytePut(1, i, 0x8182838485868788L);
                for (int k = 0; k < size; k++) {
                    int due = k >= i && k < i + 8 ? 0x81 + k - i : k < 8 ? 0x51 + k : 0;
                    Check.due("byte " + k + " of " + size + " after bytePut at " + i, x.byteAt(1, k), due);
                }
                Check.due("the bytes before", x.sum(0), 7 * 31 * 31 * 31);
                Check.due("the slots behind", x.owners(31), 3 + 29 + 3);
                Check.due("size", x.size(1), size);
                Check.due("identity behind", x.value(2), 3);
            }
        }
    }

    private static void highestFirst() {
        Check.says("Promise 14: those of a long, its highest byte first");
        TabledStore x = new TabledStore(100, 16);
        x.make(0, 31, 8, false);
        x.bytePut(0, 0, -1L);
        for (int i = 0; i < 8; i++) {
            Check.due("byte " + i + " of -1", x.byteAt(0, i), 255);
        }
        long[] longs = {Long.MIN_VALUE, Long.MAX_VALUE, 0L, 1L, 0xfeL, 0x0123456789abcdefL, -2L};
        int[] highest = {128, 127, 0, 0, 0, 0x01, 255};
        int[] fourth = {0, 255, 0, 0, 0, 0x67, 255};
        int[] lowest = {0, 255, 0, 1, 254, 0xef, 254};
        for (int k = 0; k < longs.length; k++) {
            x.bytePut(0, 0, longs[k]);
            Check.due("the highest of " + longs[k], x.byteAt(0, 0), highest[k]);
            Check.due("the fourth of " + longs[k], x.byteAt(0, 3), fourth[k]);
            Check.due("the lowest of " + longs[k], x.byteAt(0, 7), lowest[k]);
        }
    }

    private static void bytesBehindTheEnd() {
        Check.says("Promise 14: those behind the object's end are left out");
        for (int n : new int[] {9, 12, 60, 16000}) {
            for (int back = 1; back <= 9; back++) {
                TabledStore x = new TabledStore(4100, 16);
                x.make(0, 31, n, false);
                x.make(1, 31, 12, false);
                x.bytePut(0, n - back, 0x8182838485868788L);
                Check.due("the byte before", n == back ? 0 : x.byteAt(0, n - back - 1), 0);
                for (int k = 0; k < back; k++) {
                    Check.due("byte " + k + " of the last " + back + " of " + n, x.byteAt(0, n - back + k),
                            k < 8 ? 0x81 + k : 0);
                }
                Check.due("the object behind", x.value(1), 2);
                Check.due("its bytes", x.sum(1), Sums.ofEqualBytes(12, 0));
            }
        }
        TabledStore x = new TabledStore(64, 16);
        x.make(0, 31, 240, false);
        x.bytePut(0, 239, -1L);
        Check.due("the store's last byte", x.byteAt(0, 239), 255);
        Check.due("and words then", x.words(), 0);
    }

    private static void bytePutRegisters() {
        Check.says("Promise 14: register r's object");
        for (int r : new int[] {0, 31}) {
            TabledStore x = Stores.bytesEverywhere();
            x.bytePut(r, 0, 0x0102030405060708L);
            Check.due("register " + r, x.sum(r), Sums.of(1, 2, 3, 4, 5, 6, 7, 8, 100 + r));
            Check.due("register 15 stays", x.sum(15), Sums.of(0, 0, 0, 0, 0, 0, 0, 0, 115));
        }
    }

    private static void bytePutNoSuchRegister() {
        Check.says("Promise 14: there is no such register");
        Check.badRegister("bytePut", (x, r) -> x.bytePut(r, 0, -1L));
    }

    private static void bytePutNoBytes() {
        Check.says("Promise 14: or it has no object of bytes");
        for (int r : new int[] {0, 2, 3, 20}) {
            Check.badArgument("bytePut of register " + r, x -> x.bytePut(r, 0, -1L));
        }
    }

    private static void bytePutNoSuchByte() {
        Check.says("Promise 14: IndexOutOfBoundsException: it has no byte i");
        for (int i : OUTSIDE_OF_TEN) {
            Check.badIndex(Stores::mixed, "bytePut of ten, byte " + i, x -> x.bytePut(1, i, -1L));
        }
        for (int i : new int[] {-8, -7, -1, 0, 1}) {
            Check.badIndex(Stores::mixed, "bytePut of none, byte " + i, x -> x.bytePut(4, i, -1L));
        }
        Check.badIndex(Stores::mixed, "bytePut of which seven would do", x -> x.bytePut(1, -1, -1L));
        Check.badIndex(Stores::mixed, "bytePut of which one would do", x -> x.bytePut(1, -7, -1L));
        TabledStore x = Stores.largest();
        x.make(0, 31, 16000, false);
        Check.due("bytePut of 16000, byte 15999", Check.thrown(x, y -> y.bytePut(0, 15999, -1L)), Check.NOTHING);
        Check.due("bytePut of 16000, byte 16000", Check.thrown(x, y -> y.bytePut(0, 16000, -1L)), Check.BAD_INDEX);
    }

    private static void bytePutFirstNamed() {
        Check.says("Terms: the one named first when several would do (bytePut)");
        for (int i : new int[] {-1, 99}) {
            Check.badRegister("byte " + i + " of", (x, r) -> x.bytePut(r, i, -1L));
            for (int r : new int[] {0, 2, 3, 20}) {
                Check.badArgument("byte " + i + " of register " + r, x -> x.bytePut(r, i, -1L));
            }
        }
    }

    private static void sum() {
        Check.says("Promise 24: for each byte 31 times the number before and the byte");
        TabledStore x = Stores.mixed();
        Check.due("ten bytes", x.sum(1), Sums.of(0, 0x11, 0x22, 0x33, 0x44, 0x55, 0x66, 0x77, 0x88, 0));
        x.make(5, 31, 1, false);
        Check.due("one byte 0", x.sum(5), 217);
        x.bytePut(5, 0, -1L);
        Check.due("one byte 255", x.sum(5), 472);
        x.make(5, 31, 2, false);
        x.bytePut(5, 0, 0x0102000000000000L);
        Check.due("the first byte counts 31 times", x.sum(5), 7 * 31 * 31 + 31 + 2);
        Check.stays(Stores::mixed, "sum", y -> y.sum(1));
        x = Stores.bytesEverywhere();
        for (int r : new int[] {0, 31}) {
            Check.due("register " + r, x.sum(r), Sums.of(0, 0, 0, 0, 0, 0, 0, 0, 100 + r));
        }
    }

    private static void sumOfNoBytes() {
        Check.says("Promise 24: from 7 on (7 of no bytes)");
        Check.due("no bytes", Stores.mixed().sum(4), 7);
    }

    private static void sumOfNoObjectOfBytes() {
        Check.says("Promise 24: 0 when it has no object of bytes");
        TabledStore x = Stores.mixed();
        Check.due("slots", x.sum(0), 0);
        Check.due("a number", x.sum(2), 0);
        Check.due("no slots", x.sum(3), 0);
        Check.due("nil", x.sum(20), 0);
    }

    private static void sumsThatRunOver() {
        Check.says("Promise 24: as ints are reckoned");
        TabledStore x = Stores.largest();
        x.make(0, 31, 5, false);
        Check.due("the last zeros that do not run over", x.sum(0), 200404057);
        x.make(0, 31, 6, false);
        Check.due("the first zeros that run over", x.sum(0), 1917558471);
        x.make(0, 31, 7, false);
        Check.due("zeros that run below 0", x.sum(0), (int) (1917558471L * 31));
        for (int n : new int[] {5, 6, 7, 8, 9, 40, 800}) {
            x.make(0, 31, n, false);
            int turns = (n + 7) / 8;
            for (int k = 0; k < turns; k++) {
                x.bytePut(0, 8 * k, -1L);
            }
            Check.due("bytes 255, so many: " + n, x.sum(0), Sums.ofEqualBytes(n, 255));
        }
        x.make(0, 31, 16000, false);
        Check.due("the most zeros", x.sum(0), Sums.ofEqualBytes(16000, 0));
        int[] bytes = new int[16000];
        bytes[15999] = 255;
        bytes[0] = 128;
        x.bytePut(0, 15999, -1L);
        x.bytePut(0, 0, Long.MIN_VALUE);
        Check.due("the most bytes", x.sum(0), Sums.of(bytes));
    }

    private static void sumNoSuchRegister() {
        Check.says("Promise 24: there is no such register");
        Check.badRegister("sum", (x, r) -> x.sum(r));
    }
}
