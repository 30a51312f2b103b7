import java.util.ArrayList;
import java.util.List;

/**
 * In stores of many states: every call that names an exception, refused; and every call that only asks.
 * In all of them register 0 has an object of 3 slots, 1 one of 10 bytes, 2 a number, 3 no slots, 4 no bytes, 30 nil.
 */
public final class RefusedTest {
    private static final Check.Call[] BAD_ARGUMENTS = {
        x -> x.number(32, 1), x -> x.number(-1, 1), x -> x.number(0, 1073741824), x -> x.number(0, -1073741825),
        x -> x.move(32, 0), x -> x.move(0, 32), x -> x.move(-1, 0), x -> x.move(0, -1),
        x -> x.clear(32), x -> x.clear(-1),
        x -> x.make(32, 0, 0, true), x -> x.make(0, 32, 0, true), x -> x.make(0, 0, 4001, true),
        x -> x.make(0, 0, -1, true), x -> x.make(0, 0, 16001, false), x -> x.make(0, 0, -1, false),
        x -> x.copy(32, 0), x -> x.copy(0, 32), x -> x.copy(0, 2), x -> x.copy(0, 30),
        x -> x.chain(32, 0, 1, 1), x -> x.chain(0, 32, 1, 1), x -> x.chain(0, 0, 0, 1), x -> x.chain(0, 0, 101, 1),
        x -> x.chain(0, 0, 1, 0), x -> x.chain(0, 0, 1, 4001),
        x -> x.get(32, 0, 0), x -> x.get(0, 32, 0), x -> x.get(0, 1, 0), x -> x.get(0, 2, 0), x -> x.get(0, 30, 0),
        x -> x.get(32, 0, 3), x -> x.get(0, 1, 10), x -> x.get(0, 2, -1),
        x -> x.put(32, 0, 0), x -> x.put(0, 0, 32), x -> x.put(1, 0, 0), x -> x.put(2, 0, 0), x -> x.put(30, 0, 0),
        x -> x.put(0, 3, 32), x -> x.put(1, 10, 0), x -> x.put(2, -1, 0),
        x -> x.walk(32, 0, 1), x -> x.walk(0, 1, -1), x -> x.walk(0, 1, 10001),
        x -> x.classOf(32, 0), x -> x.classOf(0, 32), x -> x.classOf(0, 2), x -> x.classOf(0, 30),
        x -> x.setClass(32, 0), x -> x.setClass(0, 32), x -> x.setClass(2, 0), x -> x.setClass(30, 0),
        x -> x.byteAt(32, 0), x -> x.byteAt(0, 0), x -> x.byteAt(2, 0), x -> x.byteAt(30, 0), x -> x.byteAt(0, -1),
        x -> x.bytePut(32, 0, -1L), x -> x.bytePut(0, 0, -1L), x -> x.bytePut(2, 0, -1L), x -> x.bytePut(30, 0, -1L),
        x -> x.bytePut(0, -1, -1L), x -> x.bytePut(3, 0, -1L),
        x -> x.kind(32), x -> x.kind(-1), x -> x.value(32), x -> x.value(-1), x -> x.size(32), x -> x.size(-1),
        x -> x.become(32, 0), x -> x.become(0, 32), x -> x.become(0, 2), x -> x.become(2, 0), x -> x.become(30, 0),
        x -> x.instance(32, 31, 0), x -> x.instance(0, 32, 0), x -> x.instance(0, 31, -1),
        x -> x.owners(32), x -> x.owners(-1),
        x -> x.reaches(32, 0), x -> x.reaches(0, 32), x -> x.reaches(0, 2), x -> x.reaches(30, 0),
        x -> x.sum(32), x -> x.sum(-1)};
    private static final Check.Call[] BAD_INDICES = {
        x -> x.get(0, 0, 3), x -> x.get(0, 0, -1), x -> x.get(0, 3, 0), x -> x.get(30, 0, Integer.MIN_VALUE),
        x -> x.put(0, 3, 2), x -> x.put(0, -1, 2), x -> x.put(3, 0, 2), x -> x.put(0, Integer.MAX_VALUE, 2),
        x -> x.byteAt(1, 10), x -> x.byteAt(1, -1), x -> x.byteAt(4, 0), x -> x.byteAt(1, Integer.MAX_VALUE),
        x -> x.bytePut(1, 10, -1L), x -> x.bytePut(1, -1, -1L), x -> x.bytePut(4, 0, -1L),
        x -> x.bytePut(1, Integer.MIN_VALUE, -1L)};
    private static final Check.Call[] TOO_LARGE = {
        x -> x.make(0, 31, 4000, true), x -> x.make(1, 0, 16000, false), x -> x.make(2, 2, 4000, true),
        x -> x.make(30, 30, 16000, false), x -> x.make(3, 3, 300, true)};
    private static final Check.Call[] WITHOUT_ROOM = {
        x -> x.make(0, 31, 0, true), x -> x.make(30, 31, 0, false), x -> x.make(4, 4, 1, true),
        x -> x.copy(0, 0), x -> x.copy(30, 0), x -> x.copy(1, 1), x -> x.copy(0, 3), x -> x.copy(2, 4)};
    private static final Check.Call[] ANSWERED_WITHOUT_CHANGE = {
        x -> x.chain(0, 0, 1, 4000), x -> x.chain(30, 31, 100, 1), x -> x.chain(2, 1, 1, 1)};
    private static final Check.Call[] NOTHING_TO_DO = {
        x -> x.walk(0, 3, 5), x -> x.walk(0, -1, 5), x -> x.walk(1, 0, 5), x -> x.walk(2, 0, 5), x -> x.walk(30, 0, 5),
        x -> x.walk(0, 1, 0), x -> x.instance(0, 31, 9999), x -> x.instance(30, 2, 5),
        x -> x.instance(2, 31, Integer.MAX_VALUE)};
    private static final Check.Call[] ASKED = {
        x -> x.byteAt(1, 0), x -> x.byteAt(1, 9), x -> x.kind(0), x -> x.kind(1), x -> x.kind(2), x -> x.kind(30),
        x -> x.value(0), x -> x.value(1), x -> x.value(2), x -> x.value(30),
        x -> x.size(0), x -> x.size(1), x -> x.size(2), x -> x.size(30), x -> x.words(), x -> x.entries(),
        x -> x.owners(0), x -> x.owners(1), x -> x.owners(2), x -> x.owners(30),
        x -> x.reaches(0, 0), x -> x.reaches(0, 3), x -> x.reaches(3, 1), x -> x.reaches(1, 4),
        x -> x.sum(0), x -> x.sum(1), x -> x.sum(4), x -> x.sum(30)};

    public static void main(String[] args) {
        Check.Maker[] open = {Stores::mixed, RefusedTest::untidy, RefusedTest::placesChanged};
        Check.Maker[] full = {RefusedTest::fullOfWords, RefusedTest::fullOfEntries, RefusedTest::fullAndUntidy};
        Check.says("Terms: a call that throws, or is refused, changes nothing");
        for (Check.Maker maker : open) {
            refusedInOpenStore(maker);
        }
        for (Check.Maker maker : full) {
            refusedInFullStore(maker);
        }
        Check.says("Not promised: Nothing is promised beyond the answers (of calls that only ask)");
        for (Check.Maker maker : open) {
            asked(maker);
        }
        for (Check.Maker maker : full) {
            asked(maker);
        }
        Check.end();
    }

    /** A store in which objects can be made, but not the largest. */
    private static void refusedInOpenStore(Check.Maker maker) {
        refusedInAnyStore(maker);
        Check.due("there is an entry", maker.make().entries() > 0, true);
        Check.due("there are words", maker.make().words() > 40, true);
    }

    /** A store in which none can be made. */
    private static void refusedInFullStore(Check.Maker maker) {
        refusedInAnyStore(maker);
        for (Check.Call call : WITHOUT_ROOM) {
            Check.noRoom(maker, "without room, a call", call);
        }
        for (Check.Call call : ANSWERED_WITHOUT_CHANGE) {
            Check.stays(maker, "a chain of none", call);
        }
        TabledStore x = maker.make();
        Check.due("there is no room", x.entries() == 0 || x.words() < 4, true);
    }

    private static void refusedInAnyStore(Check.Maker maker) {
        for (int k = 0; k < BAD_ARGUMENTS.length; k++) {
            Check.badArgument(maker, "bad argument " + k, BAD_ARGUMENTS[k]);
        }
        for (int k = 0; k < BAD_INDICES.length; k++) {
            Check.badIndex(maker, "bad index " + k, BAD_INDICES[k]);
        }
        for (int k = 0; k < TOO_LARGE.length; k++) {
            Check.noRoom(maker, "too large " + k, TOO_LARGE[k]);
        }
        for (int k = 0; k < NOTHING_TO_DO.length; k++) {
            Check.stays(maker, "nothing to do " + k, NOTHING_TO_DO[k]);
        }
        oneAfterAnother(maker);
    }

    private static void asked(Check.Maker maker) {
        for (int k = 0; k < ASKED.length; k++) {
            Check.stays(maker, "asked " + k, ASKED[k]);
        }
    }

    private static void oneAfterAnother(Check.Maker maker) {
        List<Check.Call> all = new ArrayList<>(List.of(BAD_ARGUMENTS));
        all.addAll(List.of(BAD_INDICES));
        all.addAll(List.of(TOO_LARGE));
        TabledStore tried = maker.make();
        for (Check.Call call : all) {
            Check.due("one after another", Check.thrown(tried, call).equals(Check.NOTHING), false);
        }
        Check.due("all of them leave", Picture.of(tried), Picture.of(maker.make()));
    }

    /** With objects before, between and behind the others that are not reachable any more. */
    private static TabledStore untidy() {
        TabledStore x = new TabledStore(300, 20);
        x.make(10, 31, 5, true);
        x.make(0, 31, 3, true);
        x.make(11, 0, 7, false);
        x.make(1, 0, 10, false);
        x.bytePut(1, 1, 0x1122334455667788L);
        x.number(2, 42);
        x.chain(12, 11, 2, 3);
        x.make(3, 2, 0, true);
        x.make(4, 3, 0, false);
        x.make(13, 13, 1, true);
        x.put(0, 1, 3);
        for (int r = 10; r < 14; r++) {
            x.clear(r);
        }
        return x;
    }

    private static TabledStore placesChanged() {
        TabledStore x = Stores.mixed();
        x.put(0, 0, 1);
        x.put(0, 2, 0);
        x.setClass(4, 1);
        x.become(0, 3);
        x.become(1, 4);
        x.move(10, 0);
        x.move(0, 3);
        x.move(3, 10);
        x.move(10, 1);
        x.move(1, 4);
        x.move(4, 10);
        return x;
    }

    private static TabledStore fullOfWords() {
        TabledStore x = Stores.mixed();
        x.make(15, 1, x.words() - 4, true);
        return x;
    }

    private static TabledStore fullOfEntries() {
        TabledStore x = Stores.mixed();
        x.chain(15, 1, 1, 4000);
        return x;
    }

    private static TabledStore fullAndUntidy() {
        TabledStore x = untidy();
        x.make(15, 1, x.words() - 20, true);
        x.make(16, 15, 8, true);
        x.clear(16);
        x.make(16, 31, 8, true);
        x.become(15, 16);
        x.make(17, 31, 0, true);
        return x;
    }
}
