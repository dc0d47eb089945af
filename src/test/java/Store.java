import java.util.Arrays;

/** A CausalPlaces whose calls are told and counted, as nothing is promised after the 512th one. */
final class Store {
    private static final int PROMISED_CALLS = 512;
    private static String latestName = "no call";
    private static int[] latestArguments = {};
    private static int latestNumber;

    private final CausalPlaces inner = new CausalPlaces();
    private final int limit;
    private int calls;

    Store() {
        this(PROMISED_CALLS);
    }

    private Store(int limit) {
        this.limit = limit;
    }

    /** For the few tests that can't be within the 512 calls. */
    static Store beyondThePromisedCalls() {
        return new Store(Integer.MAX_VALUE);
    }

    /** The latest call of any object, in words. */
    static String latestCall() {
        String arguments = Arrays.toString(latestArguments).replace('[', '(').replace(']', ')');
        return "call " + latestNumber + ", " + latestName + arguments + ",";
    }

    int callsLeft() {
        return limit - calls;
    }

    private void tell(String name, int... arguments) {
        calls++;
        latestName = name;
        latestArguments = arguments;
        latestNumber = calls;
        if (calls > limit) {
            throw new IllegalStateException("the test makes more than " + limit + " calls");
        }
    }

    int start(int client) {
        tell("start", client);
        return inner.start(client);
    }

    int read(int client, int key) {
        tell("read", client, key);
        return inner.read(client, key);
    }

    int value(int client) {
        tell("value", client);
        return inner.value(client);
    }

    boolean write(int client, int key, int v) {
        tell("write", client, key, v);
        return inner.write(client, key, v);
    }

    int commit(int client) {
        tell("commit", client);
        return inner.commit(client);
    }

    boolean abort(int client) {
        tell("abort", client);
        return inner.abort(client);
    }

    int tick(int server) {
        tell("tick", server);
        return inner.tick(server);
    }

    int deliver(int from, int to) {
        tell("deliver", from, to);
        return inner.deliver(from, to);
    }

    int client(int c, int what) {
        tell("client", c, what);
        return inner.client(c, what);
    }

    int server(int s, int what) {
        tell("server", s, what);
        return inner.server(s, what);
    }

    int transaction(int n, int what) {
        tell("transaction", n, what);
        return inner.transaction(n, what);
    }

    int written(int n, int key) {
        tell("written", n, key);
        return inner.written(n, key);
    }

    int version(int server, int key, int i) {
        tell("version", server, key, i);
        return inner.version(server, key, i);
    }

    int link(int from, int to, int what) {
        tell("link", from, to, what);
        return inner.link(from, to, what);
    }
}
