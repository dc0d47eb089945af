/** Promise 4: value. */
@Section("## Promise 4: value")
public final class Promise04ValueTest {
    public static void main(String[] args) {
        Due.runSentences(Promise04ValueTest.class);
    }

    @Says("The int that a client read latest")
    static void theIntThatWasReadLatest(Due due) {
        Store x = new Store();
        x.start(0);
        for (int v : new int[] {-5, Integer.MIN_VALUE, Integer.MAX_VALUE, 1}) {
            int before = x.value(0);
            x.write(0, 2, v);
            due.is("value(0) before it reads again", x.value(0), before);
            x.read(0, 2);
            due.is(x.value(0), v);
        }
        due.is(x.value(3), 0);
        // It stays while nothing is read: after a commit, a start, a refused read, an abort.
        x.commit(0);
        due.is(x.value(0), 1);
        due.is(x.read(0, 2), -1);
        due.is(x.value(0), 1);
        x.start(0);
        due.is(x.value(0), 1);
        due.is(x.read(0, 8), -1);
        due.is(x.value(0), 1);
        x.write(0, 2, 9);
        x.abort(0);
        due.is(x.value(0), 1);
    }

    @Says("(0 when nothing was there,")
    static void zeroWhenNothingWasThere(Due due) {
        Store x = new Store();
        x.start(0);
        x.write(0, 2, -5);
        x.read(0, 2);
        due.is(x.value(0), -5);
        due.is(x.read(0, 4), -3);
        due.is(x.value(0), 0);
        x.read(0, 2);
        due.is(x.value(0), -5);
    }

    @Says("at first,")
    static void zeroAtFirst(Due due) {
        Store x = new Store();
        for (int c = 0; c < 6; c++) {
            due.is(x.value(c), 0);
            x.start(c);
            due.is(x.value(c), 0);
            x.write(c, 1, 5);
            due.is(x.value(c), 0);
        }
    }

    @Says("or when there is no such client).")
    static void zeroForNoSuchClient(Due due) {
        Store x = new Store();
        for (int c = 0; c < 6; c++) {
            x.start(c);
            x.write(c, 1, 5);
            x.read(c, 1);
            due.is(x.value(c), 5);
        }
        for (int c : Steps.WRONG_CLIENTS) {
            due.is(x.value(c), 0);
        }
    }
}
