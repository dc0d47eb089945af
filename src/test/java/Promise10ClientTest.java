/** Promise 10: client. */
@Section("## Promise 10: client")
public final class Promise10ClientTest {
    public static void main(String[] args) {
        Due.runSentences(Promise10ClientTest.class);
    }

    @Says("Of a client: 0 what it does (0 nothing, 1 a transaction is open, 2 one is being committed),")
    static void whatItDoes(Due due) {
        Store x = Steps.busy();
        int[] doing = {0, 1, 2, 2, 1, 0};
        for (int c = 0; c < 6; c++) {
            due.is(x.client(c, 0), doing[c]);
        }
        x.abort(1);
        due.is(x.client(1, 0), 0);
        x.commit(4);
        due.is(x.client(4, 0), 0);
        Steps.settlePlace(x, 2);
        due.is(x.client(2, 0), 0);
        x.start(5);
        due.is(x.client(5, 0), 1);
    }

    @Says("1 LATEST,")
    static void latest(Due due) {
        Store x = new Store();
        due.is(x.client(4, 1), 0);
        Steps.ticks(x, 2, 3);
        Steps.begin(x, 4, 1, 0);
        due.is(x.client(4, 1), 4);
        due.is(x.client(1, 1), 0);
        Steps.begin(x, 4, 1, 1);
        due.is(x.client(4, 1), 4);
        Steps.settlePlace(x, 1);
        due.is(x.client(4, 1), 5);
        x.start(4);
        x.abort(4);
        due.is(x.client(4, 1), 5);
    }

    @Says("2 how many own versions,")
    static void ownVersions(Due due) {
        Store x = new Store();
        Steps.begin(x, 4, 1, 0, 3);
        due.is(x.client(4, 2), 0);
        Steps.settlePlace(x, 1);
        due.is(x.client(4, 2), 2);
        due.is(x.client(1, 2), 0);
        Steps.writeAll(x, 4, 1, 0, 1, 2, 3, 4, 5, 6, 7);
        due.is(x.client(4, 2), 8);
        Steps.stabilise(x);
        due.is(x.client(4, 2), 8);
        x.start(4);
        due.is(x.client(4, 2), 0);
    }

    @Says("3 how many keys it writes in the open one")
    static void keysOfTheOpenOne(Due due) {
        Store x = new Store();
        x.start(4);
        due.is(x.client(4, 3), 0);
        x.write(4, 3, 0);
        due.is(x.client(4, 3), 1);
        x.write(4, 3, 2);
        due.is(x.client(4, 3), 1);
        for (int k = 0; k < 8; k++) {
            x.write(4, k, 1);
        }
        due.is(x.client(4, 3), 8);
        x.write(4, 8, 1);
        due.is(x.client(4, 3), 8);
        due.is(x.client(1, 3), 0);
    }

    @Says("(0 without),")
    static void noKeysWithoutAnOpenOne(Due due) {
        Store x = new Store();
        due.is(x.client(4, 3), 0);
        x.start(4);
        x.write(4, 1, 1);
        x.abort(4);
        due.is(x.client(4, 3), 0);
        Steps.begin(x, 4, 1, 1, 2);
        due.is(x.client(4, 0), 2);
        due.is(x.client(4, 3), 0);
        Steps.settlePlace(x, 1);
        due.is(x.client(4, 3), 0);
        x.start(4);
        due.is(x.client(4, 3), 0);
    }

    @Says("10 to 12 SEEN.")
    static void seen(Due due) {
        Store x = new Store();
        Steps.tellPlace(x, 0, 1, 4);
        Steps.tellPlace(x, 2, 1, 5);
        Steps.ticks(x, 2, 1);
        for (int p = 0; p < 3; p++) {
            due.is(x.client(4, 10 + p), 0);
        }
        x.start(4);
        due.is(x.client(4, 10), 4);
        due.is(x.client(4, 11), 1);
        due.is(x.client(4, 12), 5);
        x.abort(4);
        due.is(x.client(4, 12), 5);
    }

    @Says("NONE for others,")
    static void noneForOthers(Due due) {
        Store x = Steps.busy();
        int[] others = {
            -1, -2, -10, 4, 5, 9, 13, 14, 20, 22, 30, Integer.MIN_VALUE, Integer.MIN_VALUE + 9, Integer.MIN_VALUE + 10,
            Integer.MAX_VALUE
        };
        for (int c = 0; c < 6; c++) {
            for (int what : others) {
                due.is(x.client(c, what), -1);
            }
        }
    }

    @Says("or no such client.")
    static void noSuchClient(Due due) {
        Store x = Steps.busy();
        for (int c : Steps.WRONG_CLIENTS) {
            for (int what : new int[] {0, 1, 2, 3, 10, 11, 12, 13}) {
                due.is(x.client(c, what), -1);
            }
        }
    }
}
