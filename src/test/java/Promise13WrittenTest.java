/** Promise 13: written. */
@Section("## Promise 13: written")
public final class Promise13WrittenTest {
    public static void main(String[] args) {
        Due.runSentences(Promise13WrittenTest.class);
    }

    @Says("The int that a transaction wrote for a key;")
    static void theInt(Due due) {
        Store x = new Store();
        x.start(2);
        x.write(2, 0, Integer.MAX_VALUE);
        x.write(2, 6, Integer.MIN_VALUE);
        x.write(2, 7, -3);
        x.write(2, 7, -4);
        due.is(x.written(0, 7), 0);
        x.commit(2);
        due.is(x.written(0, 0), Integer.MAX_VALUE);
        due.is(x.written(0, 6), Integer.MIN_VALUE);
        due.is(x.written(0, 7), -4);
        // It stays when the client writes the key again.
        Steps.settlePlace(x, 2);
        Steps.writeAll(x, 2, 55, 7);
        due.is(x.written(0, 7), -4);
        due.is(x.written(1, 7), 55);
    }

    @Says("0 when it did not,")
    static void zeroForOtherKeys(Due due) {
        Store x = new Store();
        Steps.writeAll(x, 2, 9, 0, 7);
        Steps.writeAll(x, 2, 9, 3);
        for (int k = 1; k < 7; k++) {
            due.is(x.written(0, k), 0);
        }
        due.is(x.written(1, 0), 0);
        due.is(x.written(1, 7), 0);
        for (int k : Steps.WRONG_KEYS) {
            due.is(x.written(0, k), 0);
        }
    }

    @Says("or there is none such.")
    static void zeroForNoTransaction(Due due) {
        Store x = new Store();
        for (int k = 0; k < 8; k++) {
            due.is(x.written(0, k), 0);
        }
        Steps.begin(x, 2, 9, 0, 1, 2, 3, 4, 5, 6, 7);
        x.start(0);
        x.write(0, 0, 5);
        for (int n : new int[] {-1, 1, 199, 200, Integer.MIN_VALUE, Integer.MAX_VALUE}) {
            due.is(x.written(n, 0), 0);
            due.is(x.written(n, 8), 0);
        }
    }
}
