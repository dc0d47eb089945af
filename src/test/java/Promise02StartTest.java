/** Promise 2: start. */
public final class Promise02StartTest {
    private static final Due due = new Due("start");

    public static void main(String[] args) {
        answers();
        seenRisesToStableOfTheFirstServer();
        seenNeverFalls();
        ownVersionsAreForgotten();
        writesOfAnOlderTransactionAreGone();
        due.end();
    }

    private static void answers() {
        CausalPlaces x = new CausalPlaces();
        for (int c : Steps.WRONG_CLIENTS) {
            due.is("start(" + c + ")", x.start(c), -1);
        }
        for (int c = 0; c < 6; c++) {
            due.is("start(" + c + ")", x.start(c), 1);
            due.is("client(" + c + ", 0)", x.client(c, 0), 1);
            due.is("again start(" + c + ")", x.start(c), 0);
        }
        x.write(0, 1, 7);
        x.commit(0);
        due.is("start(0) while committing", x.start(0), 0);
        due.is("client(0, 0) while committing", x.client(0, 0), 2);
        Steps.settlePlace(x, 0);
        due.is("start(0) when over", x.start(0), 1);
        x.abort(0);
        due.is("start(0) after abort", x.start(0), 1);
        x.commit(0);
        due.is("start(0) after an empty commit", x.start(0), 1);
    }

    private static void seenRisesToStableOfTheFirstServer() {
        CausalPlaces x = new CausalPlaces();
        x.tick(2);
        x.tick(2);
        x.tick(3);
        Steps.drain(x, 3, 2);
        // Server 2 knows 2 and heard 1; server 3 knows 1 and heard nothing.
        x.start(1);
        due.is("client(1, 11)", x.client(1, 11), 1);
        due.is("client(1, 10)", x.client(1, 10), 0);
        due.is("client(1, 12)", x.client(1, 12), 0);
        x.start(4);
        due.is("client(4, 11)", x.client(4, 11), 1);
        x.start(0);
        due.is("client(0, 11), of another place", x.client(0, 11), 0);
        x.tick(3);
        Steps.drain(x, 3, 2);
        due.is("client(1, 11) within the transaction", x.client(1, 11), 1);
        due.is("refused start(1)", x.start(1), 0);
        due.is("client(1, 11) after a refused start", x.client(1, 11), 1);
        x.abort(1);
        x.start(1);
        due.is("client(1, 11) after the next start", x.client(1, 11), 2);
    }

    private static void seenNeverFalls() {
        CausalPlaces x = new CausalPlaces();
        Steps.writeAll(x, 0, 1, 0, 1);
        Steps.stabilise(x);
        x.start(2);
        for (int p = 0; p < 3; p++) {
            due.is("client(2, 1" + p + ")", x.client(2, 10 + p), x.server(4, 30 + p));
        }
        due.is("client(2, 10) is up", x.client(2, 10) >= 1, true);
    }

    private static void ownVersionsAreForgotten() {
        CausalPlaces x = new CausalPlaces();
        Steps.writeAll(x, 0, 1, 0, 1);
        due.is("client(0, 2)", x.client(0, 2), 2);
        x.start(0);
        due.is("client(0, 2) while it is not stable", x.client(0, 2), 2);
        x.abort(0);
        // Time 1 is reached: the stamp (1, 0, 0) is just up to SEEN.
        x.tick(0);
        x.tick(1);
        Steps.drain(x, 1, 0);
        due.is("client(0, 2) before the start", x.client(0, 2), 2);
        x.start(0);
        due.is("client(0, 2) when it is stable", x.client(0, 2), 0);
        due.is("read(0, 0) from the server", x.read(0, 0), 0);
        x.abort(0);
    }

    private static void writesOfAnOlderTransactionAreGone() {
        CausalPlaces x = new CausalPlaces();
        x.start(0);
        x.write(0, 0, 9);
        x.abort(0);
        x.start(0);
        due.is("client(0, 3)", x.client(0, 3), 0);
        due.is("read(0, 0)", x.read(0, 0), -3);
        due.is("commit(0)", x.commit(0), -2);
    }
}
