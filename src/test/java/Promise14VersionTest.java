/** Promise 14: version. */
public final class Promise14VersionTest {
    private static final Due due = new Due("version");

    public static void main(String[] args) {
        newerFirst();
        alikeTimes();
        wrongInputs();
        due.end();
    }

    private static void newerFirst() {
        CausalPlaces x = new CausalPlaces();
        for (int n = 0; n < 5; n++) {
            Steps.writeAll(x, 0, n, 0, n % 2 == 0 ? 2 : 4);
        }
        for (int i = 0; i < 5; i++) {
            due.is("version(0, 0, " + i + ")", x.version(0, 0, i), 4 - i);
        }
        due.is("version(0, 0, 5)", x.version(0, 0, 5), -1);
        due.is("version(0, 2, 0)", x.version(0, 2, 0), 4);
        due.is("version(0, 2, 1)", x.version(0, 2, 1), 2);
        due.is("version(0, 2, 2)", x.version(0, 2, 2), 0);
        due.is("version(0, 2, 3)", x.version(0, 2, 3), -1);
        due.is("version(0, 4, 1)", x.version(0, 4, 1), 1);
        due.is("version(0, 6, 0)", x.version(0, 6, 0), -1);
        due.is("version(2, 0, 0), not yet there", x.version(2, 0, 0), -1);
        x.deliver(0, 2);
        due.is("version(2, 0, 0)", x.version(2, 0, 0), 0);
        // An older one that comes later stands behind.
        for (int i = 0; i < 9; i++) {
            x.tick(2);
        }
        Steps.writeAll(x, 1, 9, 0);
        x.deliver(0, 2);
        due.is("version(2, 0, 0)", x.version(2, 0, 0), 5);
        due.is("version(2, 0, 1)", x.version(2, 0, 1), 1);
        due.is("version(2, 0, 2)", x.version(2, 0, 2), 0);
    }

    private static void alikeTimes() {
        CausalPlaces x = new CausalPlaces();
        // All with time 1; the places come in another order than the numbers.
        Steps.writeAll(x, 1, 1, 0);
        Steps.writeAll(x, 2, 1, 0);
        Steps.writeAll(x, 0, 1, 0);
        Steps.drain(x, 2, 0);
        Steps.drain(x, 4, 0);
        due.is("version(0, 0, 0), place 2", x.version(0, 0, 0), 1);
        due.is("version(0, 0, 1), place 1", x.version(0, 0, 1), 0);
        due.is("version(0, 0, 2), place 0", x.version(0, 0, 2), 2);
        // Alike time and place: two that were prepared apart and decided with the same time.
        CausalPlaces y = new CausalPlaces();
        y.tick(1);
        Steps.begin(y, 0, 1, 0, 1);
        Steps.begin(y, 3, 2, 0);
        Steps.settlePlace(y, 0);
        due.is("transaction(0, 1)", y.transaction(0, 1), 2);
        due.is("transaction(1, 1)", y.transaction(1, 1), 2);
        due.is("version(0, 0, 0), the greater number", y.version(0, 0, 0), 1);
        due.is("version(0, 0, 1)", y.version(0, 0, 1), 0);
    }

    private static void wrongInputs() {
        CausalPlaces x = new CausalPlaces();
        Steps.writeAll(x, 0, 1, 0, 1, 2, 3, 4, 5, 6, 7);
        for (int s = 0; s < 2; s++) {
            for (int k = 0; k < 8; k++) {
                due.is("version(" + s + ", " + k + ", 0)", x.version(s, k, 0), s == k % 2 ? 0 : -1);
            }
            for (int k : Steps.WRONG_KEYS) {
                due.is("version(" + s + ", " + k + ", 0)", x.version(s, k, 0), -1);
            }
        }
        for (int i : new int[] {-1, 1, Integer.MIN_VALUE, Integer.MAX_VALUE}) {
            due.is("version(0, 0, " + i + ")", x.version(0, 0, i), -1);
        }
        for (int s : Steps.WRONG_SERVERS) {
            due.is("version(" + s + ", 0, 0)", x.version(s, 0, 0), -1);
        }
    }
}
