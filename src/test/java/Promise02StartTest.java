/** Promise 2: start. */
@Section("## Promise 2: start")
public final class Promise02StartTest {
    public static void main(String[] args) {
        Due.runSentences(Promise02StartTest.class);
    }

    @Says("A client starts a transaction: 1;")
    static void everyClientStarts(Due due) {
        Store x = new Store();
        for (int c = 0; c < 6; c++) {
            due.is(x.start(c), 1);
            due.is(x.client(c, 0), 1);
            due.is(x.client(c, 3), 0);
        }
        // And again, when the one before was given up, was empty, or is over.
        x.abort(0);
        due.is(x.start(0), 1);
        x.commit(0);
        due.is(x.start(0), 1);
        x.write(0, 1, 5);
        x.commit(0);
        Steps.settlePlace(x, 0);
        due.is(x.start(0), 1);
        due.is(x.client(0, 3), 0);
    }

    @Says("0 if it has one that is open,")
    static void refusedWhileOneIsOpen(Due due) {
        Store x = Steps.busy();
        due.is(x.start(1), 0);
        due.is(x.start(4), 0);
        due.alike("a refused start", x, Steps.busy());
        // SEEN stays, though STABLE has risen since.
        Store y = new Store();
        y.start(1);
        y.tick(2);
        Steps.gossip(y, 1);
        due.is(y.start(1), 0);
        due.is(y.client(1, 11), 0);
        y.abort(1);
        due.is(y.start(1), 1);
        due.is(y.client(1, 11), 1);
    }

    @Says("or one that is being committed.")
    static void refusedWhileOneIsBeingCommitted(Due due) {
        Store x = Steps.busy();
        due.is(x.client(2, 0), 2);
        due.is(x.start(2), 0);
        due.is(x.start(3), 0);
        due.alike("a refused start", x, Steps.busy());
        Store y = new Store();
        Steps.begin(y, 1, 5, 0, 1);
        due.is(y.start(1), 0);
        y.deliver(2, 3);
        due.is(y.start(1), 0);
        y.deliver(3, 2);
        due.is(y.start(1), 1);
    }

    @Says("NONE: no such client.")
    static void noSuchClient(Due due) {
        Store x = Steps.busy();
        for (int c : Steps.WRONG_CLIENTS) {
            due.is(x.start(c), -1);
        }
        due.alike("a start of no client", x, Steps.busy());
    }
}
