/** Promise 6: commit. */
@Section("## Promise 6: commit")
public final class Promise06CommitTest {
    public static void main(String[] args) {
        Due.runSentences(Promise06CommitTest.class);
    }

    @Says("COMMIT: the transaction's number;")
    static void theNumber(Due due) {
        Store x = new Store();
        // Over at once, and being committed: both have their number at once.
        due.is(Steps.begin(x, 1, 3, 6), 0);
        due.is(x.client(1, 0), 0);
        due.is(Steps.begin(x, 1, 3, 7), 1);
        due.is(x.client(1, 0), 2);
        due.is(x.client(1, 3), 0);
        due.is(Steps.begin(x, 2, 3, 0, 1, 2, 3, 4, 5, 6, 7), 2);
        due.is(x.transaction(2, 3), 8);
        due.is(x.transaction(3, 0), -1);
    }

    @Says("-2 if it wrote nothing (it is over).")
    static void itWroteNothing(Due due) {
        Store x = Steps.busy();
        due.is(x.commit(4), -2);
        due.is(x.client(4, 0), 0);
        due.is(x.commit(4), -1);
        // It takes no number and sends nothing.
        Store y = Steps.busy();
        y.abort(4);
        due.alike("an empty commit", x, y);
        due.is(x.start(4), 1);
    }

    @Says("NONE: no such client,")
    static void noSuchClient(Due due) {
        Store x = Steps.busy();
        for (int c : Steps.WRONG_CLIENTS) {
            due.is(x.commit(c), -1);
        }
        due.alike("a commit of no client", x, Steps.busy());
    }

    @Says("no open transaction;")
    static void noOpenTransaction(Due due) {
        Store x = Steps.busy();
        for (int c : new int[] {0, 5, 2, 3}) {
            due.is(x.commit(c), -1);
        }
        due.alike("a commit with nothing open", x, Steps.busy());
        x.abort(1);
        due.is(x.commit(1), -1);
    }

    @Says("-3 if 200 are numbered (it stays open).")
    static void refusedWhen200AreNumbered(Due due) {
        // A transaction takes three calls at least: 200 are only numbered beyond the promised calls.
        Store x = Store.beyondThePromisedCalls();
        for (int n = 0; n < 199; n++) {
            Steps.begin(x, n % 6, n, 0);
        }
        due.is(Steps.begin(x, 1, 5, 0), 199);
        x.start(0);
        x.write(0, 1, 77);
        due.is(x.commit(0), -3);
        due.is(x.client(0, 0), 1);
        due.is(x.client(0, 3), 1);
        due.is(x.read(0, 1), -2);
        due.is(x.link(0, 1, 0), 0);
        due.is(x.transaction(200, 0), -1);
        due.is(x.write(0, 2, 78), true);
        due.is(x.commit(0), -3);
        due.is(x.server(0, 1), 0);
        due.is(x.abort(0), true);
        x.start(1);
        due.is(x.commit(1), -2);
        due.is(x.client(1, 0), 0);
        due.is(x.commit(2), -1);
    }
}
