/** Promise 6: commit. */
public final class Promise06CommitTest {
    private static final Due due = new Due("commit");

    public static void main(String[] args) {
        wrongInputsAndEmptyOnes();
        keysOfTheFirstServerAlone();
        keysOfTheSecondServerAlone();
        keysOfBothServers();
        theLeadersTimeMayBeTheGreatest();
        timeIsAboveAllThatItSaw();
        ownVersionsReplaceOthers();
        numbersAreOneRow();
        due.end();
    }

    private static void wrongInputsAndEmptyOnes() {
        CausalPlaces x = new CausalPlaces();
        for (int c : Steps.WRONG_CLIENTS) {
            due.is("commit(" + c + ")", x.commit(c), -1);
        }
        due.is("commit(0) with nothing open", x.commit(0), -1);
        x.start(0);
        x.read(0, 0);
        due.is("commit(0) that wrote nothing", x.commit(0), -2);
        due.is("client(0, 0)", x.client(0, 0), 0);
        due.is("commit(0) again", x.commit(0), -1);
        due.is("server(0, 0)", x.server(0, 0), 0);
        due.is("transaction(0, 0)", x.transaction(0, 0), -1);
        x.start(0);
        x.write(0, 1, 1);
        due.is("commit(0)", x.commit(0), 0);
        due.is("commit(0) while committing", x.commit(0), -1);
    }

    private static void keysOfTheFirstServerAlone() {
        CausalPlaces x = new CausalPlaces();
        due.is("commit(1)", Steps.begin(x, 1, 3, 6), 0);
        due.is("client(1, 0)", x.client(1, 0), 0);
        due.is("client(1, 1)", x.client(1, 1), 1);
        due.is("client(1, 2)", x.client(1, 2), 1);
        due.is("server(2, 0)", x.server(2, 0), 1);
        due.is("server(2, 1)", x.server(2, 1), 0);
        due.is("server(2, 2)", x.server(2, 2), 0);
        due.is("server(2, 3)", x.server(2, 3), 1);
        due.is("server(3, 0)", x.server(3, 0), 0);
        due.is("link(2, 3, 0)", x.link(2, 3, 0), 0);
        due.is("link(2, 0, 1)", x.link(2, 0, 1), 4);
        due.is("link(2, 4, 1)", x.link(2, 4, 1), 4);
        due.is("link(3, 1, 0)", x.link(3, 1, 0), 0);
    }

    private static void keysOfTheSecondServerAlone() {
        CausalPlaces x = new CausalPlaces();
        due.is("commit(2)", Steps.begin(x, 2, 3, 7), 0);
        due.is("client(2, 0)", x.client(2, 0), 2);
        due.is("client(2, 3)", x.client(2, 3), 0);
        due.is("server(4, 1)", x.server(4, 1), 0);
        due.is("link(4, 5, 1)", x.link(4, 5, 1), 1);
        due.is("server(5, 1)", x.server(5, 1), 0);
        x.deliver(4, 5);
        due.is("server(5, 1)", x.server(5, 1), 1);
        x.deliver(5, 4);
        due.is("client(2, 0)", x.client(2, 0), 0);
        due.is("client(2, 1)", x.client(2, 1), 1);
        due.is("server(4, 0) of the leader", x.server(4, 0), 0);
        due.is("server(4, 3) of the leader", x.server(4, 3), 0);
        due.is("link(4, 5, 1)", x.link(4, 5, 1), 3);
        x.deliver(4, 5);
        due.is("server(5, 3)", x.server(5, 3), 1);
        due.is("link(5, 1, 1)", x.link(5, 1, 1), 4);
        due.is("link(5, 3, 1)", x.link(5, 3, 1), 4);
        due.is("link(4, 0, 0)", x.link(4, 0, 0), 0);
    }

    private static void keysOfBothServers() {
        CausalPlaces x = new CausalPlaces();
        for (int i = 0; i < 4; i++) {
            x.tick(1);
        }
        due.is("commit(3)", Steps.begin(x, 3, 3, 0, 1), 0);
        due.is("server(0, 0)", x.server(0, 0), 1);
        due.is("server(0, 1)", x.server(0, 1), 1);
        x.deliver(0, 1);
        due.is("server(1, 0)", x.server(1, 0), 5);
        due.is("transaction(0, 2)", x.transaction(0, 2), 0);
        Steps.drain(x, 1, 0);
        due.is("transaction(0, 1), the greatest", x.transaction(0, 1), 5);
        due.is("server(0, 0), at least that", x.server(0, 0), 5);
        due.is("server(0, 3)", x.server(0, 3), 1);
        due.is("server(1, 1)", x.server(1, 1), 1);
        x.deliver(0, 1);
        due.is("server(1, 1)", x.server(1, 1), 0);
        due.is("server(1, 3)", x.server(1, 3), 1);
        due.is("client(3, 1)", x.client(3, 1), 5);
        due.is("client(3, 2)", x.client(3, 2), 2);
    }

    private static void theLeadersTimeMayBeTheGreatest() {
        CausalPlaces x = new CausalPlaces();
        for (int i = 0; i < 4; i++) {
            x.tick(2);
        }
        Steps.drain(x, 2, 3);
        Steps.begin(x, 1, 3, 0, 1);
        x.deliver(2, 3);
        due.is("server(3, 0)", x.server(3, 0), 1);
        x.deliver(3, 2);
        due.is("transaction(0, 1), the greatest", x.transaction(0, 1), 5);
        x.tick(3);
        due.is("server(3, 11), it is prepared with 1 there", x.server(3, 11), 0);
        x.deliver(2, 3);
        due.is("server(3, 0), at least that", x.server(3, 0), 5);
        due.is("server(3, 3)", x.server(3, 3), 1);
    }

    private static void timeIsAboveAllThatItSaw() {
        CausalPlaces x = new CausalPlaces();
        // SEEN has 9 for place 1, while the clocks of place 0 are behind.
        for (int i = 0; i < 9; i++) {
            x.tick(2);
            x.tick(3);
        }
        Steps.drain(x, 2, 0);
        Steps.drain(x, 3, 1);
        x.tick(1);
        Steps.drain(x, 1, 0);
        x.start(0);
        due.is("client(0, 11)", x.client(0, 11), 9);
        x.write(0, 0, 1);
        x.commit(0);
        due.is("transaction(0, 1) above SEEN", x.transaction(0, 1), 10);
        due.is("transaction(0, 10)", x.transaction(0, 10), 10);
        due.is("transaction(0, 11)", x.transaction(0, 11), 9);
        // LATEST is above the second server's clock and above SEEN.
        Steps.writeAll(x, 0, 2, 1);
        due.is("transaction(1, 1) above LATEST", x.transaction(1, 1), 11);
        due.is("server(1, 0)", x.server(1, 0), 11);
        // And another client's LATEST is its own.
        Steps.writeAll(x, 3, 2, 2);
        due.is("transaction(2, 1)", x.transaction(2, 1), 11);
    }

    private static void ownVersionsReplaceOthers() {
        CausalPlaces x = new CausalPlaces();
        Steps.writeAll(x, 0, 1, 0, 1, 2);
        Steps.writeAll(x, 0, 2, 2, 3);
        due.is("client(0, 2)", x.client(0, 2), 4);
        x.start(0);
        due.is("read(0, 0)", x.read(0, 0), 0);
        due.is("read(0, 2)", x.read(0, 2), 1);
        due.is("read(0, 3)", x.read(0, 3), 1);
    }

    private static void numbersAreOneRow() {
        CausalPlaces x = new CausalPlaces();
        // 120 of them, four calls each, are within the 512 calls.
        for (int n = 0; n < 120; n++) {
            due.is("commit number " + n, Steps.begin(x, n % 6, n, 2 * (n % 4)), n);
        }
        due.is("transaction(119, 0)", x.transaction(119, 0), 2);
        due.is("transaction(120, 0)", x.transaction(120, 0), -1);
    }
}
