/** Promise 12: transaction. */
public final class Promise12TransactionTest {
    public static void main(String[] args) {
        Due due = new Due("transaction");
        CausalPlaces x = new CausalPlaces();
        for (int n : new int[] {-1, 0, 199, 200, Integer.MIN_VALUE, Integer.MAX_VALUE}) {
            due.is("transaction(" + n + ", 0)", x.transaction(n, 0), -1);
            due.is("transaction(" + n + ", 20)", x.transaction(n, 20), -1);
        }
        // What is gossiped of other places is a round behind: SEEN is (1, 1, 2) then.
        Steps.stabilise(x);
        x.start(5);
        due.is("client(5, 12)", x.client(5, 12), 2);
        x.write(5, 3, 1);
        x.write(5, 4, 1);
        x.write(5, 7, 1);
        due.is("transaction(0, 0), no number yet", x.transaction(0, 0), -1);
        x.commit(5);
        int[] others = {-1, 4, 9, 13, 19, 28, 30, Integer.MIN_VALUE, Integer.MAX_VALUE};
        for (int what : others) {
            due.is("transaction(0, " + what + ")", x.transaction(0, what), -1);
        }
        due.is("transaction(0, 0)", x.transaction(0, 0), 2);
        due.is("transaction(0, 1) not told", x.transaction(0, 1), -1);
        due.is("transaction(0, 2) not told", x.transaction(0, 2), 0);
        due.is("transaction(0, 3)", x.transaction(0, 3), 3);
        due.is("transaction(0, 10)", x.transaction(0, 10), 1);
        due.is("transaction(0, 11)", x.transaction(0, 11), 1);
        due.is("transaction(0, 12) of SEEN", x.transaction(0, 12), 2);
        x.deliver(4, 5);
        due.is("transaction(0, 1) not told", x.transaction(0, 1), -1);
        x.deliver(5, 4);
        due.is("transaction(0, 1)", x.transaction(0, 1), 3);
        due.is("transaction(0, 2)", x.transaction(0, 2), 1);
        due.is("transaction(0, 10)", x.transaction(0, 10), 1);
        due.is("transaction(0, 11)", x.transaction(0, 11), 1);
        due.is("transaction(0, 12)", x.transaction(0, 12), 3);
        for (int k = 0; k < 8; k++) {
            int due20 = k == 3 || k == 4 || k == 7 ? 1 : 0;
            due.is("transaction(0, 2" + k + ")", x.transaction(0, 20 + k), due20);
        }
        due.is("transaction(1, 0)", x.transaction(1, 0), -1);
        stampStaysWhileTheClientGoesOn(due, x);
        due.end();
    }

    private static void stampStaysWhileTheClientGoesOn(Due due, CausalPlaces x) {
        x.deliver(4, 5);
        Steps.stabilise(x);
        x.start(5);
        x.write(5, 3, 9);
        due.is("client(5, 10) went on", x.client(5, 10) > 1, true);
        due.is("transaction(0, 10)", x.transaction(0, 10), 1);
        due.is("transaction(0, 12)", x.transaction(0, 12), 3);
        due.is("transaction(0, 3)", x.transaction(0, 3), 3);
        x.commit(5);
        due.is("transaction(1, 3)", x.transaction(1, 3), 1);
        due.is("transaction(1, 10)", x.transaction(1, 10), x.client(5, 10));
    }
}
