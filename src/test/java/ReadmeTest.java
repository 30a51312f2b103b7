/** The example of README.md, with the answers that its comments tell. */
public final class ReadmeTest {
    public static void main(String[] args) {
        Check.says("README.md: How to use it");
        TabledStore store = new TabledStore(1024, 64);
        store.number(0, 42);
        Check.due("register 0", store.value(0), 42);
        Check.due("make of slots", store.make(1, 0, 3, true), 1);
        Check.due("make of bytes", store.make(2, 1, 10, false), 2);
        store.put(1, 0, 2);
        store.get(4, 1, 0);
        Check.due("slot 0 of object 1", store.value(4), 2);
        store.clear(4);
        store.become(1, 2);
        Check.due("register 1", store.value(1), 2);
        Check.due("words", store.words(), 1010);
        Check.due("instance", store.instance(3, 0, 0), 1);
        Check.end();
    }
}
