/** Promises 11 classOf, 12 setClass. */
public final class ClassTest {
    public static void main(String[] args) {
        classOf();
        classOfLetsGo();
        classOfRegisters();
        classOfRefused();
        classOfNoObject();
        setClass();
        setClassLetsGo();
        setClassRegisters();
        setClassRefused();
        setClassNoObject();
        Check.end();
    }

    private static void classOf() {
        Check.says("Promise 11: Register r becomes the class of register from's object");
        TabledStore x = Stores.mixed();
        x.number(9, 1);
        x.classOf(9, 0);
        Check.due("nil", x.kind(9), 0);
        x.classOf(9, 1);
        Check.due("an object, of bytes", x.value(9), 1);
        x.classOf(9, 3);
        Check.due("a number, of no slots", x.value(9), 42);
        Check.due("its kind", x.kind(9), 1);
        x.classOf(9, 4);
        Check.due("an object, of no bytes", x.value(9), 3);
        x.classOf(4, 4);
        Check.due("over the register it is asked of", x.value(4), 3);
    }

    private static void classOfLetsGo() {
        Check.says("Terms: (What is not reachable any more takes none.) (classOf)");
        TabledStore x = new TabledStore(64, 16);
        x.make(0, 31, 6, true);
        x.make(1, 31, 10, true);
        x.classOf(1, 0);
        Check.due("words after it went over an object", x.words(), 54);
        x.classOf(0, 0);
        Check.due("words after it went over the one it is asked of", x.words(), 64);
    }

    private static void classOfRegisters() {
        Check.says("Promise 11: Register r becomes .. register from's object");
        TabledStore x = Stores.slotsEverywhere();
        x.classOf(0, 31);
        Check.due("from the last to the first", x.value(0), 131);
        x = Stores.slotsEverywhere();
        x.classOf(31, 0);
        Check.due("from the first to the last", x.value(31), 100);
    }

    private static void classOfRefused() {
        Check.says("Promise 11: there is no such register");
        Check.badRegister("classOf into", (x, r) -> x.classOf(r, 0));
        Check.badRegister("classOf from", (x, r) -> x.classOf(0, r));
        Check.badArgument("classOf with neither", x -> x.classOf(-1, 32));
    }

    private static void classOfNoObject() {
        Check.says("Promise 11: or from has no object");
        Check.badArgument("classOf a number", x -> x.classOf(0, 2));
        Check.badArgument("classOf nil", x -> x.classOf(0, 20));
        Check.badArgument("classOf a number, into no register", x -> x.classOf(32, 2));
    }

    private static void setClass() {
        Check.says("Promise 12: The class of register r's object becomes what register c is");
        TabledStore x = Stores.mixed();
        int[] of = {0, 1, 3, 4};
        int[] to = {2, 0, 1, 4};
        int[] due = {42, 1, 2, 4};
        for (int r : of) {
            for (int k = 0; k < to.length; k++) {
                x.setClass(r, to[k]);
                x.classOf(9, r);
                Check.due("class of register " + r, x.value(9), due[k]);
            }
            x.setClass(r, 31);
            x.classOf(9, r);
            Check.due("class nil", x.kind(9), 0);
            x.setClass(r, r);
            x.classOf(9, r);
            Check.due("class that is itself", x.value(9), x.value(r));
        }
    }

    private static void setClassLetsGo() {
        Check.says("Terms: (What is not reachable any more takes none.) (setClass)");
        TabledStore x = new TabledStore(64, 16);
        x.make(0, 31, 2, true);
        x.make(1, 0, 0, true);
        x.clear(0);
        Check.due("words with what is a class", x.words(), 54);
        x.setClass(1, 31);
        Check.due("words without it", x.words(), 60);
    }

    private static void setClassRegisters() {
        Check.says("Promise 12: register r's object .. register c");
        TabledStore x = Stores.slotsEverywhere();
        x.setClass(0, 31);
        x.classOf(5, 0);
        Check.due("the first one's becomes the last", x.value(5), 32);
        x.setClass(31, 0);
        x.classOf(5, 31);
        Check.due("the last one's becomes the first", x.value(5), 1);
    }

    private static void setClassRefused() {
        Check.says("Promise 12: there is no such register");
        Check.badRegister("setClass of", (x, r) -> x.setClass(r, 0));
        Check.badRegister("setClass to", (x, r) -> x.setClass(0, r));
        Check.badArgument("setClass with neither", x -> x.setClass(-1, 32));
    }

    private static void setClassNoObject() {
        Check.says("Promise 12: or r has no object");
        Check.badArgument("setClass of a number", x -> x.setClass(2, 0));
        Check.badArgument("setClass of nil", x -> x.setClass(20, 0));
        Check.badArgument("setClass of nil to no register", x -> x.setClass(20, 32));
    }
}
