/** What the document says of the store as a whole, before its promises: its first sentence, and its 512 calls. */
public final class WholeTest {
    private static final int OF_NIL = 31;

    public static void main(String[] args) {
        madeAsLongAsThereIsRoom();
        identitiesWhereverTheyAreMoved();
        identitiesWhereverTheyArePut();
        changePlacesForAll();
        foundOneByOne();
        to512Calls();
        to512DifferentCalls();
        Check.end();
    }

    private static void madeAsLongAsThereIsRoom() {
        Check.says("What it is: they are made as long as those that can be reached leave room");
        TabledStore x = new TabledStore(64, 16);
        for (int r = 0; r < 8; r++) {
            Check.due("made while there is room", x.make(r, OF_NIL, 4, true), r + 1);
        }
        Check.due("and not any more", Check.thrown(x, y -> y.make(8, OF_NIL, 0, true)), Check.NO_ROOM);
        x.put(7, 0, 0);
        x.clear(0);
        Check.due("nor while it can be reached", Check.thrown(x, y -> y.make(8, OF_NIL, 0, true)), Check.NO_ROOM);
        x.clear(7);
        Check.due("made when it cannot be reached", x.make(8, OF_NIL, 12, true), 9);
        Check.due("and no more than that", x.words(), 0);
    }

    /** Each turn lets one object go and makes as large a one as there is room for, so the others must be moved. */
    private static void identitiesWhereverTheyAreMoved() {
        Check.says("What it is: keep their identity wherever they are moved");
        TabledStore x = new TabledStore(68, 16);
        for (int r = 0; r < 6; r++) {
            x.make(r, OF_NIL, 2 + r, true);
            x.number(20, 100 + r);
            x.put(r, 1 + r, 20);
        }
        for (int gone = 0; gone < 6; gone++) {
            x.clear(gone);
            x.make(10, OF_NIL, x.words() - 4, true);
            x.clear(10);
            for (int r = gone + 1; r < 6; r++) {
                Check.due("identity of the one in register " + r, x.value(r), r + 1);
                Check.due("its size", x.size(r), 2 + r);
                x.get(20, r, 1 + r);
                Check.due("its last slot", x.value(20), 100 + r);
            }
        }
        Check.due("all gone", x.words(), 68);
    }

    private static void identitiesWhereverTheyArePut() {
        Check.says("What it is: keep their identity wherever they are moved (to registers, slots and classes)");
        TabledStore x = new TabledStore(100, 16);
        x.make(0, OF_NIL, 1, false);
        x.make(1, OF_NIL, 1, true);
        x.move(2, 0);
        x.put(1, 0, 2);
        x.get(3, 1, 0);
        x.setClass(1, 3);
        x.classOf(4, 1);
        x.instance(5, OF_NIL, 0);
        for (int r : new int[] {0, 2, 3, 4, 5}) {
            Check.due("in register " + r, x.value(r), 1);
        }
        x.bytePut(4, 0, -1L);
        for (int r : new int[] {0, 2, 3, 4, 5}) {
            Check.due("one and the same, in register " + r, x.byteAt(r, 0), 255);
        }
        Check.due("in five registers, a slot and a class", x.owners(0), 7);
    }

    private static void changePlacesForAll() {
        Check.says("What it is: change places for all that point to them");
        TabledStore x = new TabledStore(300, 40);
        x.make(0, OF_NIL, 1, true);
        x.make(1, OF_NIL, 1, false);
        for (int r = 2; r < 12; r++) {
            x.make(r, r % 2, 2, true);
            x.put(r, 0, 1 - r % 2);
            x.put(r, 1, r % 2);
        }
        x.become(0, 1);
        for (int r = 2; r < 12; r++) {
            int first = r % 2 == 0 ? 1 : 2;
            Check.due("register " + r + " stays", x.value(r), r + 1);
            x.classOf(20, r);
            Check.due("the class of register " + r, x.value(20), 3 - first);
            x.get(20, r, 0);
            Check.due("slot 0 of register " + r, x.value(20), first);
            x.get(20, r, 1);
            Check.due("slot 1 of register " + r, x.value(20), 3 - first);
        }
        x.clear(20);
        Check.due("all of the one", x.owners(0), 1 + 5 + 10);
        Check.due("all of the other", x.owners(1), 1 + 5 + 10);
    }

    private static void foundOneByOne() {
        Check.says("What it is: and are found again one by one by what they belong to");
        TabledStore x = new TabledStore(300, 40);
        x.make(0, OF_NIL, 0, true);
        x.make(1, OF_NIL, 0, true);
        for (int k = 0; k < 10; k++) {
            x.chain(2, k % 2, 1, 1);
        }
        for (int c = 0; c < 2; c++) {
            for (int k = 0; k < 5; k++) {
                Check.due("of class " + c + ", " + k, x.instance(3, c, k), 3 + c + 2 * k);
            }
            Check.due("and no more of class " + c, x.instance(3, c, 5), 0);
        }
    }

    /** A store that is full of words and of entries, from which one is let go each turn and one made in its room. */
    private static void to512Calls() {
        Check.says("What it is: An object is used for at most 512 calls after it has been made");
        TabledStore x = Stores.largest();
        x.chain(0, OF_NIL, 4, 4000);
        x.chain(0, OF_NIL, 4, 4000);
        Check.due("the last that there is room for", x.chain(0, OF_NIL, 4, 4000), 192);
        for (int turn = 1; turn <= 169; turn++) {
            Check.due("one is let go", x.walk(0, 0, 1), 1);
            Check.due("its words", x.words(), 8);
            Check.due("one is made", x.chain(0, OF_NIL, 4, 4000), 1);
        }
        Check.due("the 511th call", x.value(0), 8192 + 169);
        Check.due("the 512th call", x.entries(), 0);
    }

    /** 32 turns of 16 calls, so the last answer is that of the 512th. */
    private static void to512DifferentCalls() {
        Check.says("What it is: An object is used for at most 512 calls (each another than the one before)");
        TabledStore x = new TabledStore(64, 16);
        for (int turn = 0; turn < 32; turn++) {
            int made = 4 * turn;
            Check.due("make", x.make(0, OF_NIL, 9, false), made + 1);
            x.bytePut(0, 1, 0x0102030405060708L + turn);
            Check.due("byteAt", x.byteAt(0, 8), 8 + turn);
            Check.due("make of its class", x.make(1, 0, 2, true), made + 2);
            x.put(1, 1, 0);
            Check.due("copy", x.copy(2, 1), made + 3);
            x.become(0, 2);
            Check.due("sum", x.sum(2), Sums.of(0, 1, 2, 3, 4, 5, 6, 7, 8 + turn));
            Check.due("reaches", x.reaches(1, 0), true);
            Check.due("instance", x.instance(3, 0, 0), made + 2);
            Check.due("chain", x.chain(0, 3, 1, 1), 1);
            Check.due("owners", x.owners(3), 3);
            Check.due("walk", x.walk(0, 0, 2), 2);
            Check.due("kind", x.kind(0), 0);
            Check.due("entries", x.entries(), 16 - 3);
            Check.due("words", x.words(), 64 - 7 - 6 - 6);
        }
    }
}
