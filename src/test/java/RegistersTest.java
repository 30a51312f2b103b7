/** Promises 2 number, 3 move, 4 clear, 15 kind, 16 value, 17 size. */
public final class RegistersTest {
    public static void main(String[] args) {
        number();
        move();
        clear();
        kind();
        value();
        size();
        Check.end();
    }

    private static void number() {
        TabledStore x = new TabledStore(64, 16);
        for (int v : new int[] {0, 1, -1, 5, -77, 1073741823, -1073741824}) {
            x.number(31, v);
            Check.due("number's kind", x.kind(31), 1);
            Check.due("number's value", x.value(31), v);
        }
        Check.due("the register beside it", x.kind(30), 0);
        for (int v : new int[] {1073741824, -1073741825, Integer.MAX_VALUE, Integer.MIN_VALUE}) {
            Check.badArgument("number " + v, y -> y.number(0, v));
        }
        Check.badRegister("number", (y, r) -> y.number(r, 3));
    }

    private static void move() {
        TabledStore x = Check.filled();
        x.move(9, 0);
        Check.due("move of an object", x.value(9), 1);
        Check.due("and where it was", x.value(0), 1);
        x.move(9, 2);
        Check.due("move of a number", x.value(9), 42);
        x.move(9, 20);
        Check.due("move of nil", x.kind(9), 0);
        x.move(1, 1);
        Check.due("move to itself", x.value(1), 2);
        int words = x.words();
        x.move(4, 20);
        Check.due("words after an object was moved over", x.words(), words + 4);
        Check.badRegister("move to", (y, r) -> y.move(r, 0));
        Check.badRegister("move from", (y, r) -> y.move(0, r));
    }

    private static void clear() {
        TabledStore x = Check.filled();
        x.clear(2);
        x.clear(1);
        x.clear(31);
        Check.due("clear of a number", x.kind(2), 0);
        Check.due("clear of an object", x.kind(1), 0);
        Check.due("clear of nil", x.kind(31), 0);
        Check.due("clear leaves the others", x.kind(0), 2);
        Check.badRegister("clear", (y, r) -> y.clear(r));
    }

    private static void kind() {
        TabledStore x = Check.filled();
        int[] due = {2, 3, 1, 2, 3, 0};
        for (int r = 0; r < due.length; r++) {
            Check.due("kind " + r, x.kind(r), due[r]);
        }
        x.number(5, 0);
        Check.due("kind of the number 0", x.kind(5), 1);
        Check.badRegister("kind", (y, r) -> y.kind(r));
    }

    private static void value() {
        TabledStore x = Check.filled();
        int[] due = {1, 2, 42, 3, 4, 0};
        for (int r = 0; r < due.length; r++) {
            Check.due("value " + r, x.value(r), due[r]);
        }
        for (int r = 0; r < 32; r++) {
            Check.due("value of a new store's register", new TabledStore(64, 16).value(r), 0);
        }
        Check.badRegister("value", (y, r) -> y.value(r));
    }

    private static void size() {
        TabledStore x = Check.filled();
        int[] due = {3, 10, 0, 0, 0, 0};
        for (int r = 0; r < due.length; r++) {
            Check.due("size " + r, x.size(r), due[r]);
        }
        Check.badRegister("size", (y, r) -> y.size(r));
    }
}
