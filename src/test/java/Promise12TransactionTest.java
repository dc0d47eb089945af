/** Promise 12: transaction. */
@Section("## Promise 12: transaction")
public final class Promise12TransactionTest {
    public static void main(String[] args) {
        Due.runSentences(Promise12TransactionTest.class);
    }

    /** Client 5, with SEEN (4, 6, 2), is committing the keys 3, 4 and 7 at place 2. */
    private static Store committing() {
        Store x = new Store();
        Steps.tellPlace(x, 0, 2, 4);
        Steps.tellPlace(x, 1, 2, 6);
        Steps.ticks(x, 4, 2);
        Steps.begin(x, 5, 1, 3, 4, 7);
        return x;
    }

    private static void stamp(Due due, Store x, int... numbers) {
        for (int p = 0; p < 3; p++) {
            due.is(x.transaction(0, 10 + p), numbers[p]);
        }
    }

    @Says("Of a transaction: 0 its place,")
    static void place(Due due) {
        Store x = new Store();
        for (int c = 0; c < 6; c++) {
            Steps.begin(x, c, 1, 1);
            due.is(x.transaction(c, 0), c % 3);
        }
    }

    @Says("1 its time,")
    static void time(Due due) {
        Store x = committing();
        Steps.settlePlace(x, 2);
        due.is(x.transaction(0, 1), 7);
        Steps.begin(x, 2, 1, 0);
        due.is(x.transaction(1, 1), 8);
        due.is(x.transaction(0, 1), 7);
    }

    @Says("2 whether its time is told")
    static void whetherItsTimeIsTold(Due due) {
        Store x = committing();
        due.is(x.transaction(0, 2), 0);
        Steps.drain(x, 4, 5);
        due.is(x.transaction(0, 2), 0);
        Steps.drain(x, 5, 4);
        due.is(x.transaction(0, 2), 1);
        Steps.begin(x, 0, 1, 0);
        due.is(x.transaction(1, 2), 1);
    }

    @Says("(while that is 0, what 1 is NONE,")
    static void noTimeBeforeItIsTold(Due due) {
        Store x = committing();
        // The first server has prepared it with a time already.
        due.is(x.server(4, 1), 1);
        due.is(x.transaction(0, 1), -1);
        Steps.drain(x, 4, 5);
        due.is(x.transaction(0, 1), -1);
        Steps.drain(x, 5, 4);
        due.is(x.transaction(0, 1), 7);
    }

    @Says("and the stamp has SEEN's own number for its place),")
    static void theStampBeforeTheTimeIsTold(Due due) {
        Store x = committing();
        due.is(x.client(5, 12), 2);
        stamp(due, x, 4, 6, 2);
        Steps.drain(x, 4, 5);
        stamp(due, x, 4, 6, 2);
        Steps.drain(x, 5, 4);
        stamp(due, x, 4, 6, 7);
    }

    @Says("3 how many keys;")
    static void howManyKeys(Due due) {
        Store x = committing();
        due.is(x.transaction(0, 3), 3);
        Steps.begin(x, 0, 1, 5, 5, 5);
        due.is(x.transaction(1, 3), 1);
        Steps.begin(x, 1, 1, 0, 1, 2, 3, 4, 5, 6, 7);
        due.is(x.transaction(2, 3), 8);
        Steps.settlePlace(x, 2);
        due.is(x.transaction(0, 3), 3);
    }

    @Says("10 to 12 its stamp,")
    static void theStampStaysWhileTheClientGoesOn(Due due) {
        Store x = committing();
        Steps.settlePlace(x, 2);
        stamp(due, x, 4, 6, 7);
        Steps.tellPlace(x, 0, 2, 5);
        x.start(5);
        due.is(x.client(5, 10), 9);
        stamp(due, x, 4, 6, 7);
        x.write(5, 0, 1);
        x.commit(5);
        due.is(x.transaction(1, 10), 9);
        due.is(x.transaction(1, 12), x.transaction(1, 1));
        stamp(due, x, 4, 6, 7);
    }

    @Says("20 to 27 whether it writes that key.")
    static void whetherItWritesAKey(Due due) {
        Store x = committing();
        for (int k = 0; k < 8; k++) {
            due.is(x.transaction(0, 20 + k), k == 3 || k == 4 || k == 7 ? 1 : 0);
        }
        x.start(0);
        x.write(0, 0, 0);
        x.commit(0);
        due.is(x.transaction(1, 20), 1);
        due.is(x.transaction(1, 21), 0);
    }

    @Says("NONE for others,")
    static void noneForOthers(Due due) {
        Store x = committing();
        int[] others = {
            -1, -2, -10, 4, 9, 13, 19, 28, 30, 32, Integer.MIN_VALUE, Integer.MIN_VALUE + 9, Integer.MIN_VALUE + 10,
            Integer.MIN_VALUE + 19, Integer.MIN_VALUE + 20, Integer.MAX_VALUE
        };
        for (int what : others) {
            due.is(x.transaction(0, what), -1);
        }
        Steps.settlePlace(x, 2);
        for (int what : others) {
            due.is(x.transaction(0, what), -1);
        }
    }

    @Says("or no such transaction.")
    static void noSuchTransaction(Due due) {
        Store x = committing();
        for (int n : new int[] {-1, 1, 199, 200, Integer.MIN_VALUE, Integer.MAX_VALUE}) {
            for (int what : new int[] {0, 1, 2, 3, 10, 11, 12, 20, 23, 27, 28}) {
                due.is(x.transaction(n, what), -1);
            }
        }
        // One that is open has no number yet.
        x.start(0);
        x.write(0, 0, 1);
        due.is(x.transaction(1, 0), -1);
        x.commit(0);
        due.is(x.transaction(1, 0), 0);
    }
}
