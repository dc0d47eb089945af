/** Promise 8: tick. */
public final class Promise08TickTest {
    private static final Due due = new Due("tick");

    public static void main(String[] args) {
        answersAndMessages();
        knownStopsBelowWhatIsPrepared();
        knownStopsBelowTheLeastOfAll();
        gossipTellsAllThatIsKnown();
        due.end();
    }

    private static void answersAndMessages() {
        CausalPlaces x = new CausalPlaces();
        for (int s : Steps.WRONG_SERVERS) {
            due.is("tick(" + s + ")", x.tick(s), -1);
        }
        for (int s = 0; s < 6; s++) {
            due.is("tick(" + s + ")", x.tick(s), 1);
            due.is("again tick(" + s + ")", x.tick(s), 2);
            for (int p = 0; p < 3; p++) {
                due.is("server(" + s + ", 1" + p + ")", x.server(s, 10 + p), p == s / 2 ? 2 : 0);
            }
        }
        for (int from = 0; from < 6; from++) {
            for (int to = 0; to < 6; to++) {
                boolean samePlace = from / 2 == to / 2;
                boolean linked = from != to && (samePlace || from % 2 == to % 2);
                String name = "link(" + from + ", " + to + ", ";
                due.is(name + "0)", x.link(from, to, 0), linked ? 2 : -1);
                due.is(name + "1)", x.link(from, to, 1), linked ? samePlace ? 6 : 5 : -1);
                due.is(name + "2)", x.link(from, to, 2), linked && !samePlace ? 1 : -1);
            }
        }
    }

    private static void knownStopsBelowWhatIsPrepared() {
        CausalPlaces x = new CausalPlaces();
        x.tick(0);
        x.tick(0);
        Steps.begin(x, 0, 1, 0, 1);
        due.is("server(0, 10), set at a tick alone", x.server(0, 10), 2);
        due.is("tick(0)", x.tick(0), 4);
        due.is("server(0, 10) below time 3", x.server(0, 10), 2);
        due.is("tick(0)", x.tick(0), 5);
        due.is("server(0, 10) below time 3", x.server(0, 10), 2);
        x.deliver(0, 4);
        x.deliver(0, 4);
        due.is("link(0, 4, 2), what UPTO tells", x.link(0, 4, 2), 2);
        x.deliver(0, 4);
        x.deliver(0, 4);
        due.is("server(4, 10)", x.server(4, 10), 2);
        Steps.settlePlace(x, 0);
        due.is("server(0, 10) before the tick", x.server(0, 10), 2);
        due.is("tick(0)", x.tick(0), 6);
        due.is("server(0, 10)", x.server(0, 10), 6);
    }

    private static void knownStopsBelowTheLeastOfAll() {
        CausalPlaces x = new CausalPlaces();
        // Server 1 is ahead: 0 and 1 are prepared at server 0 with 1 and 2, at server 1 with 7 and 8.
        for (int i = 0; i < 6; i++) {
            x.tick(1);
        }
        Steps.drain(x, 1, 0);
        Steps.begin(x, 0, 1, 0, 1);
        Steps.begin(x, 3, 2, 2, 3);
        x.deliver(0, 1);
        x.deliver(0, 1);
        x.tick(0);
        x.tick(1);
        due.is("server(0, 10), below 1", x.server(0, 10), 0);
        due.is("server(1, 10), below 7", x.server(1, 10), 6);
        x.deliver(1, 0);
        due.is("transaction(0, 1)", x.transaction(0, 1), 7);
        due.is("server(0, 2), 0 is decided and waits for 1", x.server(0, 2), 1);
        x.tick(0);
        due.is("server(0, 10), below 2", x.server(0, 10), 1);
        Steps.drain(x, 0, 1);
        x.tick(1);
        due.is("server(1, 3), 0 is applied", x.server(1, 3), 1);
        due.is("server(1, 10), below 8", x.server(1, 10), 7);
    }

    private static void gossipTellsAllThatIsKnown() {
        CausalPlaces x = new CausalPlaces();
        x.tick(2);
        x.tick(4);
        x.tick(4);
        x.deliver(2, 0);
        x.deliver(4, 0);
        x.tick(0);
        x.tick(2);
        x.deliver(2, 0);
        x.deliver(0, 1);
        due.is("server(1, 20), as it was at the tick", x.server(1, 20), 1);
        due.is("server(1, 21), as it was at the tick", x.server(1, 21), 1);
        due.is("server(1, 22), as it was at the tick", x.server(1, 22), 1);
        due.is("server(0, 11)", x.server(0, 11), 2);
    }
}
