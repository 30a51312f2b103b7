/** Promises 2 number, 3 move, 4 clear, 15 kind, 16 value, 17 size. */
public final class RegistersTest {
    private static final int[] ENDS = {0, 31};

    public static void main(String[] args) {
        number();
        numberRefused();
        move();
        moveRefused();
        clear();
        clearRefused();
        kind();
        kindRefused();
        value();
        valueRefused();
        size();
        sizeRefused();
        Check.end();
    }

    private static void number() {
        Check.says("Promise 2: A register becomes a number");
        for (int r : ENDS) {
            TabledStore x = new TabledStore(64, 16);
            for (int v : new int[] {0, 1, -1, 5, -77, 1073741823, -1073741824}) {
                x.number(r, v);
                Check.due("kind of " + v, x.kind(r), 1);
                Check.due("value of " + v, x.value(r), v);
            }
            Check.due("the other registers", x.owners(15), 31);
        }
        TabledStore x = Stores.withoutWords();
        x.number(0, 1);
        Check.due("words after a number over an object", x.words(), 64);
    }

    private static void numberRefused() {
        Check.says("Promise 2: there is no such register or number");
        Check.badRegister("number", (x, r) -> x.number(r, 3));
        Check.badNumbers("number", (x, v) -> x.number(0, v),
                1073741824, -1073741825, Integer.MAX_VALUE, Integer.MIN_VALUE);
        Check.badArgument("number with neither", x -> x.number(32, 1073741824));
    }

    private static void move() {
        Check.says("Promise 3: Register r becomes what register from is");
        TabledStore x = Stores.mixed();
        x.move(9, 0);
        Check.due("move of an object", x.value(9), 1);
        Check.due("and where it was", x.value(0), 1);
        x.move(9, 2);
        Check.due("move of a number", x.value(9), 42);
        x.move(9, 20);
        Check.due("move of nil", x.kind(9), 0);
        int words = x.words();
        x.move(4, 20);
        Check.due("words after an object was moved over", x.words(), words + 4);
        Check.stays(Stores::mixed, "move of an object to itself", y -> y.move(1, 1));
        Check.stays(Stores::mixed, "move of nil to itself", y -> y.move(31, 31));
        x = Stores.slotsEverywhere();
        x.move(0, 31);
        Check.due("from the last to the first", x.value(0), 32);
        x.move(31, 1);
        Check.due("to the last", x.value(31), 2);
        x.move(2, 0);
        Check.due("from the first", x.value(2), 32);
    }

    private static void moveRefused() {
        Check.says("Promise 3: there is no such register");
        Check.badRegister("move to", (x, r) -> x.move(r, 0));
        Check.badRegister("move from", (x, r) -> x.move(0, r));
        Check.badArgument("move with neither", x -> x.move(32, 32));
    }

    private static void clear() {
        Check.says("Promise 4: A register becomes nil");
        TabledStore x = Stores.mixed();
        x.clear(2);
        x.clear(1);
        x.clear(31);
        Check.due("clear of a number", x.kind(2), 0);
        Check.due("clear of an object", x.kind(1), 0);
        Check.due("clear of nil", x.kind(31), 0);
        Check.due("clear leaves the others", x.kind(0), 2);
        Check.stays(Stores::mixed, "clear of nil", y -> y.clear(31));
        x = Stores.slotsEverywhere();
        for (int r : ENDS) {
            x.clear(r);
            Check.due("clear of register " + r, x.kind(r), 0);
        }
        Check.due("just these", x.owners(0), 2 + 30);
    }

    private static void clearRefused() {
        Check.says("Promise 4: there is no such register");
        Check.badRegister("clear", (x, r) -> x.clear(r));
    }

    private static void kind() {
        Check.says("Promise 15: 0 nil, 1 a number, 2 an object of slots, 3 one of bytes");
        TabledStore x = Stores.mixed();
        int[] due = {2, 3, 1, 2, 3, 0};
        for (int r = 0; r < due.length; r++) {
            Check.due("kind " + r, x.kind(r), due[r]);
        }
        x.number(5, 0);
        Check.due("kind of the number 0", x.kind(5), 1);
        x.number(31, -1);
        Check.due("kind of the number -1, register 31", x.kind(31), 1);
        Check.stays(Stores::mixed, "kind", y -> y.kind(0));
    }

    private static void kindRefused() {
        Check.says("Promise 15: there is no such register");
        Check.badRegister("kind", (x, r) -> x.kind(r));
    }

    private static void value() {
        Check.says("Promise 16: A register's number, or the identity of its object, or 0 for nil");
        TabledStore x = Stores.mixed();
        int[] due = {1, 2, 42, 3, 4, 0};
        for (int r = 0; r < due.length; r++) {
            Check.due("value " + r, x.value(r), due[r]);
        }
        x.number(31, 1073741823);
        Check.due("value of the highest number", x.value(31), 1073741823);
        x.number(31, -1073741824);
        Check.due("value of the lowest number", x.value(31), -1073741824);
        x.number(31, 0);
        Check.due("value of the number 0", x.value(31), 0);
        Check.stays(Stores::mixed, "value", y -> y.value(0));
    }

    private static void valueRefused() {
        Check.says("Promise 16: there is no such register");
        Check.badRegister("value", (x, r) -> x.value(r));
    }

    private static void size() {
        Check.says("Promise 17: How many slots or bytes a register's object has; 0 when it has none");
        TabledStore x = Stores.mixed();
        int[] due = {3, 10, 0, 0, 0, 0};
        for (int r = 0; r < due.length; r++) {
            Check.due("size " + r, x.size(r), due[r]);
        }
        x = Stores.largest();
        x.make(0, 1, 4000, true);
        x.make(31, 1, 16000, false);
        x.number(2, 5);
        Check.due("size of the most slots", x.size(0), 4000);
        Check.due("size of the most bytes", x.size(31), 16000);
        Check.due("size of a number", x.size(2), 0);
        Check.due("size of nil", x.size(3), 0);
        for (int n = 0; n <= 9; n++) {
            x.make(4, 1, n, false);
            Check.due("size of bytes, not of their words", x.size(4), n);
        }
        Check.stays(Stores::mixed, "size", y -> y.size(0));
    }

    private static void sizeRefused() {
        Check.says("Promise 17: there is no such register");
        Check.badRegister("size", (x, r) -> x.size(r));
    }
}
