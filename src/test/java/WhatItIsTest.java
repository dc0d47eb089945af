/** What the document says of the whole, before its terms. */
@Section("## What it is")
public final class WhatItIsTest {
    public static void main(String[] args) {
        Due.runSentences(WhatItIsTest.class);
    }

    @Says("A store in three places, each whole and each of two servers:")
    static void everyPlaceGetsEveryKeyOnOneOfItsTwoServers(Due due) {
        Store x = new Store();
        Steps.writeAll(x, 0, 5, 0, 1, 2, 3, 4, 5, 6, 7);
        for (int to = 2; to < 6; to++) {
            Steps.drain(x, to % 2, to);
        }
        for (int s = 0; s < 6; s++) {
            for (int k = 0; k < 8; k++) {
                due.is(x.version(s, k, 0), k % 2 == s % 2 ? 0 : -1);
            }
        }
    }

    @Says("clients work at their own place alone,")
    static void aTransactionNeedsNoMessageOfAnotherPlace(Due due) {
        for (int c = 0; c < 6; c++) {
            Store x = new Store();
            int first = 2 * (c % 3);
            due.is(Steps.begin(x, c, 7, 0, 1), 0);
            due.is(x.deliver(first, first + 1), 1);
            due.is(x.deliver(first + 1, first), 2);
            due.is(x.client(c, 0), 0);
            due.is(x.start(c), 1);
            due.is(x.read(c, 0), 0);
            due.is(x.read(c, 1), 0);
            for (int s = 0; s < 6; s++) {
                due.is(x.server(s, 0), s / 2 == c % 3 ? 1 : 0);
            }
        }
    }

    @Says("in transactions that read one state")
    static void whatComesWhileATransactionIsOpenIsNotSeenInIt(Due due) {
        Store x = new Store();
        Steps.writeAll(x, 0, 1, 0, 1);
        Steps.stabilise(x);
        x.start(3);
        due.is(x.read(3, 0), 0);
        Steps.writeAll(x, 0, 2, 0, 1);
        Steps.stabilise(x);
        due.is(x.version(1, 1, 0), 1);
        due.is(x.read(3, 1), 0);
        x.abort(3);
        x.start(3);
        due.is(x.read(3, 1), 1);
        due.is(x.read(3, 0), 1);
    }

    @Says("and write at once or not at all;")
    static void anotherClientSeesAllOfATransactionOrNothing(Due due) {
        Store x = new Store();
        Steps.begin(x, 0, 1, 0, 1);
        int[][] deliveriesAndTicks = {{0, 1}, {1, 0}, {0, 0}, {1, 1}, {0, 1}, {1, 0}, {1, 1}, {0, 1}, {0, 0}, {1, 0}};
        int seen = -3;
        for (int[] step : deliveriesAndTicks) {
            if (step[0] == step[1]) {
                x.tick(step[0]);
            } else {
                x.deliver(step[0], step[1]);
            }
            x.start(3);
            seen = x.read(3, 0);
            due.is("another client's " + Store.latestCall(), x.read(3, 1), seen);
            x.abort(3);
        }
        due.is("the transaction that is seen at last", seen, 0);
    }

    @Says("what is written goes to the other places when it can,")
    static void theVersionsWaitOnTheirWay(Due due) {
        Store x = new Store();
        Steps.writeAll(x, 0, 1, 0);
        due.is(x.version(2, 0, 0), -1);
        due.is(x.version(4, 0, 0), -1);
        x.deliver(0, 4);
        due.is(x.version(2, 0, 0), -1);
        due.is(x.version(4, 0, 0), 0);
        Steps.stabilise(x);
        due.is(x.version(2, 0, 0), 0);
        for (int c = 0; c < 6; c++) {
            x.start(c);
            due.is(x.read(c, 0), 0);
        }
    }

    @Says("and is seen there only with all that it comes from.")
    static void aVersionThatIsThereIsNotSeenBeforeWhatItComesFrom(Due due) {
        Store x = new Store();
        Steps.writeAll(x, 0, 7, 0);
        Steps.tellPlace(x, 0, 1, 1);
        // Place 1 reads it and goes on from it; place 2 hears of place 1 first.
        x.start(1);
        due.is(x.read(1, 0), 0);
        x.write(1, 2, 8);
        due.is(x.commit(1), 1);
        Steps.tellPlace(x, 1, 2, 3);
        x.start(2);
        due.is(x.version(4, 2, 0), 1);
        due.is("SEEN of place 1 reaches it", x.client(2, 11) >= x.transaction(1, 1), true);
        due.is(x.read(2, 2), -3);
        due.is(x.read(2, 0), -3);
        x.abort(2);
        Steps.tellPlace(x, 0, 2, 0);
        x.start(2);
        due.is(x.read(2, 2), 1);
        due.is(x.read(2, 0), 0);
    }

    @Says("An object is used for at most 512 calls after it has been made;")
    static void the512thCallIsStillAnswered(Due due) {
        Store x = new Store();
        for (int i = 1; i <= 512; i++) {
            due.is(x.tick(0), i);
        }
        due.is("calls left", x.callsLeft(), 0);
        Store rows = new Store();
        Steps.ticks(rows, 5, 509);
        due.is(rows.link(5, 1, 0), 509);
        due.is(rows.link(5, 3, 0), 509);
        due.is(rows.link(5, 4, 0), 509);
        due.is("calls left", rows.callsLeft(), 0);
        Store transactions = new Store();
        for (int n = 0; n < 170; n++) {
            due.is(Steps.begin(transactions, n % 3, n, 0), n);
        }
        due.is(transactions.written(169, 0), 169);
        due.is(transactions.version(0, 0, 56), 0);
        due.is("calls left", transactions.callsLeft(), 0);
    }

    @Says("what later calls answer is free.")
    static void laterCallsEnd(Due due) {
        Store x = Store.beyondThePromisedCalls();
        Steps.ticks(x, 0, 5000);
        Steps.drain(x, 0, 1);
        Steps.drain(x, 0, 2);
        for (int n = 0; n < 300; n++) {
            Steps.begin(x, n % 6, n, 0, 1);
            Steps.settlePlace(x, n % 3);
        }
        due.is("the test came to its end", true, true);
    }
}
