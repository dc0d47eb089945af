/** Promise 1: a new object. */
@Section("## Promise 1: A new object")
public final class Promise01NewObjectTest {
    public static void main(String[] args) {
        Due.runSentences(Promise01NewObjectTest.class);
    }

    @Says("Nothing written,")
    static void nothingIsWritten(Due due) {
        Store x = new Store();
        for (int c = 0; c < 6; c++) {
            due.is(x.value(c), 0);
            due.is(x.client(c, 2), 0);
            due.is(x.client(c, 3), 0);
        }
        for (int s = 0; s < 6; s++) {
            due.is(x.server(s, 3), 0);
            for (int k = 0; k < 8; k++) {
                due.is(x.version(s, k, 0), -1);
            }
            for (int to = 0; to < 6; to++) {
                due.is(x.link(s, to, 0), Steps.areLinked(s, to) ? 0 : -1);
            }
        }
        for (int c = 0; c < 6; c++) {
            x.start(c);
            for (int k = 0; k < 8; k++) {
                due.is(x.read(c, k), -3);
            }
        }
    }

    @Says("no transactions.")
    static void thereAreNoTransactions(Due due) {
        Store x = new Store();
        for (int n : new int[] {0, 1, 199}) {
            due.is(x.transaction(n, 0), -1);
            due.is(x.transaction(n, 2), -1);
            due.is(x.written(n, 0), 0);
        }
        for (int c = 0; c < 6; c++) {
            due.is(x.client(c, 0), 0);
        }
        for (int s = 0; s < 6; s++) {
            due.is(x.server(s, 1), 0);
            due.is(x.server(s, 2), 0);
        }
        // Nor those of another object.
        Steps.busy();
        due.alike("another object's transactions", new Store(), x);
    }
}
