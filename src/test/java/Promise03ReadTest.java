/** Promise 3: read. */
@Section("## Promise 3: read")
public final class Promise03ReadTest {
    public static void main(String[] args) {
        Due.runSentences(Promise03ReadTest.class);
    }

    @Says("A client reads a key: the number of the transaction that wrote it;")
    static void theNumberOfTheWriter(Due due) {
        Store x = new Store();
        for (int k = 0; k < 8; k++) {
            Steps.writeAll(x, 0, 10 + k, k);
        }
        x.start(0);
        for (int k = 0; k < 8; k++) {
            due.is(x.read(0, k), k);
            due.is(x.value(0), 10 + k);
        }
        // Another client of the place reads them from the servers.
        Steps.ticks(x, 0, 8);
        Steps.ticks(x, 1, 8);
        Steps.gossip(x, 0);
        x.start(3);
        for (int k = 0; k < 8; k++) {
            due.is(x.read(3, k), k);
            due.is(x.value(3), 10 + k);
        }
    }

    @Says("-2 if it is written in the open one;")
    static void writtenInTheOpenOne(Due due) {
        Store x = new Store();
        Steps.writeAll(x, 0, 1, 0, 1);
        x.start(0);
        for (int k = 0; k < 8; k++) {
            x.write(0, k, 0);
            due.is(x.read(0, k), -2);
            due.is(x.value(0), 0);
        }
        x.commit(0);
        Steps.settlePlace(x, 0);
        x.start(0);
        due.is(x.read(0, 0), 1);
    }

    @Says("-3 if nothing was.")
    static void nothingWasWritten(Due due) {
        Store x = new Store();
        for (int c = 0; c < 6; c++) {
            x.start(c);
            for (int k = 0; k < 8; k++) {
                due.is(x.read(c, k), -3);
            }
        }
        x.write(0, 3, 5);
        due.is(x.read(0, 2), -3);
        x.abort(0);
        x.start(0);
        due.is(x.read(0, 3), -3);
    }

    @Says("NONE: no such client")
    static void noSuchClient(Due due) {
        Store x = Steps.busy();
        for (int c : Steps.WRONG_CLIENTS) {
            due.is(x.read(c, 6), -1);
        }
        due.alike("a read of no client", x, Steps.busy());
    }

    @Says("or key,")
    static void noSuchKey(Due due) {
        Store x = Steps.busy();
        for (int k : Steps.WRONG_KEYS) {
            due.is(x.read(1, k), -1);
            due.is(x.read(4, k), -1);
        }
        due.alike("a read of no key", x, Steps.busy());
    }

    @Says("or no open transaction.")
    static void noOpenTransaction(Due due) {
        Store x = Steps.busy();
        for (int k = 0; k < 8; k++) {
            due.is(x.read(0, k), -1);
            due.is(x.read(5, k), -1);
            // These are being committed.
            due.is(x.read(2, k), -1);
            due.is(x.read(3, k), -1);
        }
        due.alike("a read with nothing open", x, Steps.busy());
    }
}
