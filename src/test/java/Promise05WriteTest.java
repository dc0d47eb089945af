/** Promise 5: write. */
@Section("## Promise 5: write")
public final class Promise05WriteTest {
    public static void main(String[] args) {
        Due.runSentences(Promise05WriteTest.class);
    }

    @Says("A client writes a key: true.")
    static void everyKeyCanBeWritten(Due due) {
        Store x = new Store();
        x.start(0);
        for (int k = 0; k < 8; k++) {
            due.is(x.write(0, k, 100 + k), true);
            due.is(x.client(0, 3), k + 1);
        }
        due.is(x.write(0, 5, 7), true);
        due.is(x.client(0, 3), 8);
        due.is(x.client(3, 3), 0);
        // Nothing leaves the client before it commits.
        due.is(x.server(0, 0), 0);
        due.is(x.link(0, 1, 0), 0);
        due.is(x.commit(0), 0);
        for (int k = 0; k < 8; k++) {
            due.is(x.written(0, k), k == 5 ? 7 : 100 + k);
        }
    }

    @Says("False: no such client")
    static void noSuchClient(Due due) {
        Store x = Steps.busy();
        for (int c : Steps.WRONG_CLIENTS) {
            due.is(x.write(c, 0, 1), false);
        }
        due.alike("a write of no client", x, Steps.busy());
    }

    @Says("or key,")
    static void noSuchKey(Due due) {
        Store x = Steps.busy();
        for (int k : Steps.WRONG_KEYS) {
            due.is(x.write(1, k, 1), false);
            due.is(x.write(4, k, 1), false);
        }
        due.alike("a write of no key", x, Steps.busy());
        due.is(x.commit(4), -2);
    }

    @Says("or no open transaction.")
    static void noOpenTransaction(Due due) {
        Store x = Steps.busy();
        // Two that do nothing, two that are being committed.
        for (int c : new int[] {0, 5, 2, 3}) {
            due.is(x.write(c, 3, 1), false);
            due.is(x.write(c, 5, 1), false);
        }
        due.alike("a write with nothing open", x, Steps.busy());
        x.abort(1);
        due.is(x.write(1, 3, 1), false);
        x.commit(4);
        due.is(x.write(4, 3, 1), false);
        x.start(5);
        due.is(x.commit(5), -2);
    }
}
