/** Runs of calls that several tests need. */
final class Steps {
    static final int[] WRONG_CLIENTS = {-1, 6, Integer.MIN_VALUE, Integer.MAX_VALUE};
    static final int[] WRONG_SERVERS = {-1, 6, Integer.MIN_VALUE, Integer.MAX_VALUE};
    static final int[] WRONG_KEYS = {-1, 8, -2, Integer.MIN_VALUE, Integer.MAX_VALUE};

    private Steps() {
    }

    static int firstServer(int client) {
        return 2 * (client % 3);
    }

    /** Writes the keys, all with the int v, and commits; messages stay where they are. */
    static int begin(CausalPlaces x, int client, int v, int... keys) {
        x.start(client);
        for (int key : keys) {
            x.write(client, key, v);
        }
        return x.commit(client);
    }

    /** Like begin, and then the messages inside the place are all taken. */
    static int writeAll(CausalPlaces x, int client, int v, int... keys) {
        int n = begin(x, client, v, keys);
        settlePlace(x, client % 3);
        return n;
    }

    static void settlePlace(CausalPlaces x, int place) {
        for (int i = 0; i < 8; i++) {
            drain(x, 2 * place, 2 * place + 1);
            drain(x, 2 * place + 1, 2 * place);
        }
    }

    static void drain(CausalPlaces x, int from, int to) {
        while (x.deliver(from, to) > 0) {
            continue;
        }
    }

    /** Ticks of all servers with all messages taken, so that everything becomes stable. */
    static void stabilise(CausalPlaces x) {
        for (int round = 0; round < 2; round++) {
            for (int s = 0; s < 6; s++) {
                x.tick(s);
            }
            for (int from = 0; from < 6; from++) {
                for (int to = 0; to < 6; to++) {
                    drain(x, from, to);
                }
            }
        }
    }
}
