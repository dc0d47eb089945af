/** Promise 3: read. */
public final class Promise03ReadTest {
    private static final Due due = new Due("read");

    public static void main(String[] args) {
        wrongInputs();
        ownWriteComesFirst();
        ownVersionIsReadBeforeItIsStable();
        othersSeeItOnlyWhenItIsStable();
        otherPlacesSeeItWithAllThatItComesFrom();
        newestOfOwnAndOthers();
        oneStateForTheWholeTransaction();
        due.end();
    }

    private static void wrongInputs() {
        CausalPlaces x = new CausalPlaces();
        due.is("read(0, 0) with nothing open", x.read(0, 0), -1);
        for (int c : Steps.WRONG_CLIENTS) {
            due.is("read(" + c + ", 0)", x.read(c, 0), -1);
        }
        x.start(0);
        for (int k : Steps.WRONG_KEYS) {
            due.is("read(0, " + k + ")", x.read(0, k), -1);
        }
        for (int k = 0; k < 8; k++) {
            due.is("read(0, " + k + ")", x.read(0, k), -3);
        }
        x.write(0, 1, 4);
        x.commit(0);
        due.is("read(0, 1) while committing", x.read(0, 1), -1);
        Steps.settlePlace(x, 0);
        due.is("read(0, 1) when over", x.read(0, 1), -1);
    }

    private static void ownWriteComesFirst() {
        CausalPlaces x = new CausalPlaces();
        Steps.writeAll(x, 0, 1, 0);
        x.start(0);
        due.is("read(0, 0)", x.read(0, 0), 0);
        x.write(0, 0, 0);
        due.is("read(0, 0) written with 0", x.read(0, 0), -2);
        x.abort(0);
        x.start(0);
        due.is("read(0, 0) after abort", x.read(0, 0), 0);
    }

    private static void ownVersionIsReadBeforeItIsStable() {
        CausalPlaces x = new CausalPlaces();
        Steps.begin(x, 0, 7, 0, 1);
        x.deliver(0, 1);
        x.deliver(1, 0);
        // The second server has not taken DECIDE, but it is over for the client.
        x.start(0);
        due.is("read(0, 1)", x.read(0, 1), 0);
        due.is("value(0)", x.value(0), 7);
        due.is("version(1, 1, 0)", x.version(1, 1, 0), -1);
    }

    private static void othersSeeItOnlyWhenItIsStable() {
        CausalPlaces x = new CausalPlaces();
        Steps.writeAll(x, 0, 7, 0);
        x.start(3);
        due.is("read(3, 0) not stable", x.read(3, 0), -3);
        x.abort(3);
        x.tick(0);
        x.start(3);
        due.is("read(3, 0) not heard", x.read(3, 0), -3);
        x.abort(3);
        x.tick(1);
        x.deliver(1, 0);
        x.start(3);
        due.is("read(3, 0) stable", x.read(3, 0), 0);
        due.is("value(3)", x.value(3), 7);
    }

    private static void otherPlacesSeeItWithAllThatItComesFrom() {
        CausalPlaces x = new CausalPlaces();
        Steps.writeAll(x, 0, 7, 0);
        Steps.drain(x, 0, 2);
        Steps.drain(x, 0, 4);
        // Place 1 gets it and goes on from it; place 2 hears of place 1 first.
        x.tick(0);
        x.tick(1);
        Steps.drain(x, 0, 2);
        Steps.drain(x, 1, 3);
        x.tick(3);
        Steps.drain(x, 3, 2);
        x.start(1);
        due.is("read(1, 0)", x.read(1, 0), 0);
        x.write(1, 2, 8);
        due.is("commit(1)", x.commit(1), 1);
        due.is("transaction(1, 10)", x.transaction(1, 10), 1);
        x.tick(2);
        x.tick(3);
        x.tick(3);
        Steps.drain(x, 2, 4);
        Steps.drain(x, 3, 5);
        x.tick(5);
        Steps.drain(x, 5, 4);
        x.start(2);
        due.is("version(4, 2, 0)", x.version(4, 2, 0), 1);
        due.is("client(2, 11) reaches it", x.client(2, 11) >= x.transaction(1, 1), true);
        due.is("client(2, 10)", x.client(2, 10), 0);
        due.is("read(2, 2) without what it comes from", x.read(2, 2), -3);
        x.abort(2);
        Steps.drain(x, 0, 4);
        Steps.drain(x, 1, 5);
        x.tick(5);
        Steps.drain(x, 5, 4);
        x.start(2);
        due.is("read(2, 2)", x.read(2, 2), 1);
        due.is("read(2, 0)", x.read(2, 0), 0);
    }

    private static void newestOfOwnAndOthers() {
        CausalPlaces x = new CausalPlaces();
        Steps.writeAll(x, 0, 10, 0);
        Steps.writeAll(x, 1, 11, 0);
        // Alike times: the greater place is newer, at every place, once it is seen.
        due.is("transaction(0, 1)", x.transaction(0, 1), x.transaction(1, 1));
        x.start(0);
        due.is("read(0, 0)", x.read(0, 0), 0);
        x.abort(0);
        x.tick(2);
        x.tick(3);
        Steps.drain(x, 2, 0);
        Steps.drain(x, 3, 1);
        x.tick(1);
        Steps.drain(x, 1, 0);
        x.start(0);
        due.is("client(0, 2)", x.client(0, 2), 1);
        due.is("read(0, 0) newer from place 1", x.read(0, 0), 1);
        due.is("value(0)", x.value(0), 11);
        x.abort(0);
        // Its own one, newer again, beats the one at the server.
        Steps.writeAll(x, 0, 12, 0);
        x.start(0);
        due.is("read(0, 0) newer own one", x.read(0, 0), 2);
        due.is("value(0)", x.value(0), 12);
    }

    private static void oneStateForTheWholeTransaction() {
        CausalPlaces x = new CausalPlaces();
        Steps.writeAll(x, 0, 1, 0, 1);
        Steps.stabilise(x);
        x.start(3);
        due.is("read(3, 0)", x.read(3, 0), 0);
        Steps.writeAll(x, 0, 2, 0, 1);
        Steps.stabilise(x);
        due.is("version(1, 1, 0)", x.version(1, 1, 0), 1);
        due.is("read(3, 1) of the same state", x.read(3, 1), 0);
        x.abort(3);
        x.start(3);
        due.is("read(3, 1) of a later state", x.read(3, 1), 1);
        due.is("read(3, 0) of a later state", x.read(3, 0), 1);
    }
}
