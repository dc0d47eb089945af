/** Wrong numbers, and runs of calls, that several tests need. */
final class Steps {
    static final int[] WRONG_CLIENTS = {-1, 6, Integer.MIN_VALUE, Integer.MAX_VALUE};
    static final int[] WRONG_SERVERS = {-1, 6, Integer.MIN_VALUE, Integer.MAX_VALUE};
    static final int[] WRONG_KEYS = {-1, 8, -2, 9, Integer.MIN_VALUE, Integer.MAX_VALUE};
    // Six times 715827883 wraps around to 2: it must not be taken for the link from 0 to 2.
    static final int[][] WRONG_LINKS = {
        {0, 0}, {5, 5}, {0, 3}, {3, 0}, {1, 2}, {0, 5}, {-1, 0}, {0, -1}, {6, 4}, {4, 6}, {0, 6}, {1, -4}, {-1, 8},
        {715827883, 0}, {715827882, 6}, {Integer.MIN_VALUE, 0}, {0, Integer.MIN_VALUE}, {Integer.MAX_VALUE, 1},
        {1, Integer.MAX_VALUE}
    };

    private Steps() {
    }

    static boolean areLinked(int from, int to) {
        return from != to && (from / 2 == to / 2 || from % 2 == to % 2);
    }

    /** Writes the keys, all with the int v, and commits; messages stay where they are. */
    static int begin(Store x, int client, int v, int... keys) {
        x.start(client);
        for (int key : keys) {
            x.write(client, key, v);
        }
        return x.commit(client);
    }

    /** Like begin, and then the messages inside the place are all taken. */
    static int writeAll(Store x, int client, int v, int... keys) {
        int n = begin(x, client, v, keys);
        settlePlace(x, client % 3);
        return n;
    }

    static void settlePlace(Store x, int place) {
        for (int i = 0; i < 2; i++) {
            drain(x, 2 * place, 2 * place + 1);
            drain(x, 2 * place + 1, 2 * place);
        }
    }

    static void drain(Store x, int from, int to) {
        while (x.deliver(from, to) > 0) {
            continue;
        }
    }

    static void ticks(Store x, int server, int times) {
        for (int i = 0; i < times; i++) {
            x.tick(server);
        }
    }

    /** The second server of a place tells the first one what it knows. */
    static void gossip(Store x, int place) {
        x.tick(2 * place + 1);
        drain(x, 2 * place + 1, 2 * place);
    }

    /** Both servers of a place tick, and another place hears of it. */
    static void tellPlace(Store x, int from, int to, int times) {
        ticks(x, 2 * from, times);
        ticks(x, 2 * from + 1, times);
        drain(x, 2 * from, 2 * to);
        drain(x, 2 * from + 1, 2 * to + 1);
        gossip(x, to);
    }

    /** Ticks of all servers with all messages taken, so that low times become stable everywhere. */
    static void stabilise(Store x) {
        for (int round = 0; round < 3; round++) {
            for (int s = 0; s < 6; s++) {
                x.tick(s);
            }
            takeAll(x);
        }
    }

    private static void takeAll(Store x) {
        for (int from = 0; from < 6; from++) {
            for (int to = 0; to < 6; to++) {
                if (areLinked(from, to)) {
                    drain(x, from, to);
                }
            }
        }
    }

    /**
     * Clients that do nothing (0 with own versions, 5 without), that have a transaction open
     * (1 with a write, 4 without) and that are committing (2, 3); servers with some that are
     * prepared, decided and applied; messages of every kind that are not yet taken.
     */
    static Store busy() {
        Store x = new Store();
        ticks(x, 1, 2);
        writeAll(x, 0, 11, 0, 1);
        x.start(0);
        x.read(0, 1);
        x.abort(0);
        begin(x, 3, 22, 2, 3);
        begin(x, 0, 33, 4);
        begin(x, 2, 44, 5);
        x.deliver(4, 5);
        x.start(1);
        x.write(1, 6, 55);
        x.read(1, 6);
        x.start(4);
        x.tick(2);
        return x;
    }

    /**
     * A client of the writer's place saw 2 of another place and wrote key 0, at time 3, so that its
     * stamp has 3 and 2 there. The version is at the third place, where a client has a transaction
     * open whose SEEN is as told (2 or 3 of the writer's place, 0 to 2 of the other one).
     */
    static Store readerWithSeen(int writer, int other, int seenOfWriter, int seenOfOther) {
        Store x = new Store();
        int reader = 3 - writer - other;
        ticks(x, 2 * writer, 2);
        ticks(x, 2 * writer + 1, 3);
        tellPlace(x, other, writer, 2);
        begin(x, writer, 7, 0);
        // One that is prepared with 4 keeps the next UPTO at 3.
        begin(x, writer + 3, 8, 0, 1);
        x.tick(2 * writer);
        // The row is UPTO 1, UPTO 2, VERSIONS, UPTO 3.
        for (int i = 0; i <= seenOfWriter; i++) {
            x.deliver(2 * writer, 2 * reader);
        }
        drain(x, 2 * writer + 1, 2 * reader + 1);
        for (int i = 0; i < seenOfOther; i++) {
            x.deliver(2 * other, 2 * reader);
        }
        drain(x, 2 * other + 1, 2 * reader + 1);
        gossip(x, reader);
        x.start(reader);
        return x;
    }
}
