/** Promises 8 get, 9 put, 10 walk, 11 classOf, 12 setClass. */
public final class SlotsTest {
    private static final int[] NO_INDEX = {-1, 3, 4, Integer.MIN_VALUE, Integer.MAX_VALUE};

    public static void main(String[] args) {
        getAndPut();
        getRefused();
        putRefused();
        walk();
        walkRefused();
        classes();
        classesRefused();
        Check.end();
    }

    private static void getAndPut() {
        TabledStore x = Check.filled();
        x.put(0, 0, 2);
        x.put(0, 2, 0);
        x.get(9, 0, 0);
        Check.due("a number in a slot", x.value(9), 42);
        x.get(9, 0, 1);
        Check.due("an object in a slot", x.value(9), 3);
        x.get(9, 0, 2);
        Check.due("an object in its own slot", x.value(9), 1);
        x.put(0, 2, 31);
        x.get(9, 0, 2);
        Check.due("nil in a slot", x.kind(9), 0);
        x.get(0, 0, 1);
        Check.due("get over the register it is got from", x.value(0), 3);
        x.clear(1);
        Check.due("words without the first", x.words(), 300 - 8);
        x.make(5, 31, 1, true);
        x.make(6, 31, 1, true);
        x.put(5, 0, 6);
        x.clear(6);
        x.put(5, 0, 31);
        Check.due("words without what a put let go", x.words(), 300 - 13);
    }

    private static void getRefused() {
        Check.badRegister("get into", (y, r) -> y.get(r, 0, 0));
        Check.badRegister("get from", (y, r) -> y.get(0, r, 0));
        Check.badArgument("get of bytes", y -> y.get(9, 1, 0));
        Check.badArgument("get of a number", y -> y.get(9, 2, 0));
        Check.badArgument("get of nil", y -> y.get(9, 20, 0));
        Check.badArgument("get of bytes behind their end", y -> y.get(9, 1, 99));
        Check.badArgument("get into no register behind the end", y -> y.get(32, 0, 99));
        for (int i : NO_INDEX) {
            Check.badIndex("get " + i, y -> y.get(9, 0, i));
        }
        Check.badIndex("get of no slots", y -> y.get(9, 3, 0));
    }

    private static void putRefused() {
        Check.badRegister("put into", (y, r) -> y.put(r, 0, 0));
        Check.badRegister("put of", (y, r) -> y.put(0, 0, r));
        Check.badArgument("put into bytes", y -> y.put(1, 0, 2));
        Check.badArgument("put into a number", y -> y.put(2, 0, 2));
        Check.badArgument("put into nil", y -> y.put(20, 0, 2));
        Check.badArgument("put of no register behind the end", y -> y.put(0, 99, 32));
        for (int i : NO_INDEX) {
            Check.badIndex("put " + i, y -> y.put(0, i, 2));
        }
        Check.badIndex("put into no slots", y -> y.put(3, 0, 2));
    }

    private static void walk() {
        TabledStore x = new TabledStore(200, 16);
        x.chain(0, 31, 2, 4);
        x.move(1, 0);
        Check.due("walk of none", x.walk(1, 0, 0), 0);
        Check.due("and where it is", x.value(1), 4);
        Check.due("walk of two", x.walk(1, 0, 2), 2);
        Check.due("and where it is", x.value(1), 2);
        Check.due("walk to the end", x.walk(1, 0, 10000), 2);
        Check.due("and where it is", x.kind(1), 0);
        Check.due("walk from nil", x.walk(1, 0, 5), 0);
        x.move(1, 0);
        Check.due("walk by slot 1", x.walk(1, 1, 5), 1);
        Check.due("and where it is", x.kind(1), 0);
        for (int i : new int[] {2, -1, Integer.MAX_VALUE, Integer.MIN_VALUE}) {
            x.move(1, 0);
            Check.due("walk by slot " + i, x.walk(1, i, 5), 0);
            Check.due("and where it is", x.value(1), 4);
        }
        x.make(2, 31, 8, false);
        x.put(0, 1, 2);
        x.move(1, 0);
        Check.due("walk to bytes", x.walk(1, 1, 5), 1);
        Check.due("and where it is", x.value(1), 5);
        x.number(3, 12);
        x.put(0, 1, 3);
        x.move(1, 0);
        Check.due("walk to a number", x.walk(1, 1, 5), 1);
        Check.due("and where it is", x.value(1), 12);
        x.put(0, 1, 0);
        Check.due("walk in a ring", x.walk(0, 1, 10000), 10000);
        Check.due("walk that drops the chain's end", x.walk(0, 0, 1), 1);
        Check.due("words then", x.words(), 200 - 18 - 6);
    }

    private static void walkRefused() {
        Check.badRegister("walk", (y, r) -> y.walk(r, 0, 1));
        for (int n : new int[] {-1, 10001, Integer.MIN_VALUE, Integer.MAX_VALUE}) {
            Check.badArgument("walk " + n, y -> y.walk(0, 1, n));
        }
    }

    private static void classes() {
        TabledStore x = Check.filled();
        x.classOf(9, 0);
        Check.due("class nil", x.kind(9), 0);
        x.classOf(9, 1);
        Check.due("class of bytes", x.value(9), 1);
        x.classOf(9, 3);
        Check.due("class that is a number", x.kind(9), 1);
        Check.due("which", x.value(9), 42);
        x.setClass(0, 0);
        x.classOf(9, 0);
        Check.due("class that is itself", x.value(9), 1);
        x.setClass(1, 4);
        x.classOf(1, 1);
        Check.due("class over the register it is asked of", x.value(1), 4);
        x.setClass(0, 31);
        x.classOf(9, 0);
        Check.due("class set to nil", x.kind(9), 0);
        x = new TabledStore(64, 16);
        x.make(0, 31, 2, true);
        x.make(1, 0, 0, true);
        x.clear(0);
        Check.due("words with a class that is reachable", x.words(), 54);
        x.setClass(1, 31);
        Check.due("words without it", x.words(), 60);
    }

    private static void classesRefused() {
        Check.badRegister("classOf into", (y, r) -> y.classOf(r, 0));
        Check.badRegister("classOf from", (y, r) -> y.classOf(0, r));
        Check.badArgument("classOf a number", y -> y.classOf(9, 2));
        Check.badArgument("classOf nil", y -> y.classOf(9, 20));
        Check.badRegister("setClass of", (y, r) -> y.setClass(r, 0));
        Check.badRegister("setClass to", (y, r) -> y.setClass(0, r));
        Check.badArgument("setClass of a number", y -> y.setClass(2, 0));
        Check.badArgument("setClass of nil", y -> y.setClass(20, 0));
    }
}
