/** Promise 7: abort. */
@Section("## Promise 7: abort")
public final class Promise07AbortTest {
    public static void main(String[] args) {
        Due.runSentences(Promise07AbortTest.class);
    }

    @Says("The open transaction is given up: true.")
    static void theOpenOneIsGivenUp(Due due) {
        Store x = new Store();
        Steps.writeAll(x, 0, 2, 1);
        x.start(3);
        x.start(0);
        x.write(0, 0, 1);
        x.write(0, 1, 3);
        due.is(x.abort(0), true);
        due.is(x.client(0, 0), 0);
        due.is(x.client(0, 3), 0);
        due.is(x.client(3, 0), 1);
        due.is(x.transaction(1, 0), -1);
        due.is(x.link(0, 1, 0), 0);
        due.is(x.server(0, 0), 0);
        // What it has from before stays; what was written is gone.
        due.is(x.client(0, 1), 1);
        due.is(x.client(0, 2), 1);
        x.start(0);
        due.is(x.read(0, 0), -3);
        due.is(x.read(0, 1), 0);
        due.is(x.commit(0), -2);
    }

    @Says("False: no such client,")
    static void noSuchClient(Due due) {
        Store x = Steps.busy();
        for (int c : Steps.WRONG_CLIENTS) {
            due.is(x.abort(c), false);
        }
        due.alike("an abort of no client", x, Steps.busy());
    }

    @Says("none is open.")
    static void noneIsOpen(Due due) {
        Store x = Steps.busy();
        // Two that do nothing; two that are being committed, which goes on.
        for (int c : new int[] {0, 5, 2, 3}) {
            due.is(x.abort(c), false);
        }
        due.alike("an abort with nothing open", x, Steps.busy());
        due.is(x.abort(1), true);
        due.is(x.abort(1), false);
        x.commit(4);
        due.is(x.abort(4), false);
    }
}
