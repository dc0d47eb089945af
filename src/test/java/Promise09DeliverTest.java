/** Promise 9: deliver. */
public final class Promise09DeliverTest {
    private static final Due due = new Due("deliver");

    public static void main(String[] args) {
        linksAndEmptyOnes();
        kindsInOrder();
        uptoAndGossip();
        versionsLeaveKnownAlone();
        appliesInOrderOfTime();
        aLongRowOfMessages();
        due.end();
    }

    private static void linksAndEmptyOnes() {
        CausalPlaces x = new CausalPlaces();
        for (int from = -1; from < 8; from++) {
            for (int to = -1; to < 8; to++) {
                boolean exist = from >= 0 && from < 6 && to >= 0 && to < 6;
                boolean linked = exist && from != to && (from / 2 == to / 2 || from % 2 == to % 2);
                due.is("deliver(" + from + ", " + to + ")", x.deliver(from, to), linked ? 0 : -1);
            }
        }
        due.is("deliver(MIN, 0)", x.deliver(Integer.MIN_VALUE, 0), -1);
        due.is("deliver(0, MAX)", x.deliver(0, Integer.MAX_VALUE), -1);
        due.is("deliver(1, -4)", x.deliver(1, -4), -1);
        due.is("deliver(-1, 8)", x.deliver(-1, 8), -1);
    }

    private static void kindsInOrder() {
        CausalPlaces x = new CausalPlaces();
        x.tick(0);
        Steps.begin(x, 0, 1, 0, 1);
        due.is("GOSSIP first", x.deliver(0, 1), 6);
        due.is("PREPARE", x.deliver(0, 1), 1);
        due.is("none", x.deliver(0, 1), 0);
        due.is("PREPARED", x.deliver(1, 0), 2);
        due.is("none", x.deliver(1, 0), 0);
        due.is("DECIDE", x.deliver(0, 1), 3);
        x.tick(1);
        due.is("UPTO first", x.deliver(0, 2), 5);
        due.is("VERSIONS", x.deliver(0, 2), 4);
        due.is("none", x.deliver(0, 2), 0);
        due.is("VERSIONS first", x.deliver(1, 5), 4);
        due.is("UPTO", x.deliver(1, 5), 5);
        due.is("version(2, 0, 0)", x.version(2, 0, 0), 0);
        due.is("version(5, 1, 0)", x.version(5, 1, 0), 0);
        due.is("version(4, 0, 0), not yet there", x.version(4, 0, 0), -1);
    }

    private static void uptoAndGossip() {
        CausalPlaces x = new CausalPlaces();
        x.tick(3);
        x.tick(3);
        x.tick(3);
        x.deliver(3, 5);
        due.is("server(5, 11)", x.server(5, 11), 1);
        x.deliver(3, 5);
        due.is("server(5, 11)", x.server(5, 11), 2);
        due.is("server(5, 12)", x.server(5, 12), 0);
        due.is("server(5, 0), its CLOCK stays", x.server(5, 0), 0);
        x.deliver(3, 2);
        due.is("server(2, 21)", x.server(2, 21), 1);
        due.is("server(2, 11)", x.server(2, 11), 0);
        due.is("server(2, 31)", x.server(2, 31), 0);
        x.tick(2);
        due.is("server(2, 31), the lesser one", x.server(2, 31), 1);
        due.is("server(2, 0)", x.server(2, 0), 1);
    }

    private static void versionsLeaveKnownAlone() {
        CausalPlaces x = new CausalPlaces();
        Steps.writeAll(x, 0, 1, 0, 2, 4);
        x.deliver(0, 4);
        due.is("server(4, 3)", x.server(4, 3), 1);
        due.is("server(4, 10)", x.server(4, 10), 0);
        due.is("server(4, 0)", x.server(4, 0), 0);
        due.is("link(4, 2, 0), not sent on", x.link(4, 2, 0), 0);
    }

    private static void appliesInOrderOfTime() {
        CausalPlaces x = new CausalPlaces();
        // 0 stays prepared at server 0 with time 1; three more are decided there and wait.
        Steps.begin(x, 0, 1, 0, 1);
        for (int n = 1; n <= 3; n++) {
            due.is("commit(3)", Steps.begin(x, 3, n, 0), n);
            due.is("client(3, 0)", x.client(3, 0), 0);
            due.is("server(0, 2)", x.server(0, 2), n);
        }
        due.is("server(0, 3)", x.server(0, 3), 0);
        due.is("link(0, 2, 0)", x.link(0, 2, 0), 0);
        for (int i = 0; i < 2; i++) {
            x.tick(1);
        }
        x.deliver(0, 1);
        Steps.drain(x, 1, 0);
        // Its time is 3, as that of 2: those of least time first, of alike ones the lower number.
        due.is("transaction(0, 1)", x.transaction(0, 1), 3);
        due.is("transaction(2, 1)", x.transaction(2, 1), 3);
        due.is("server(0, 2)", x.server(0, 2), 0);
        due.is("server(0, 3)", x.server(0, 3), 4);
        int[] order = {1, 0, 2, 3};
        for (int n : order) {
            due.is("link(0, 2, 2)", x.link(0, 2, 2), n);
            due.is("link(0, 4, 2)", x.link(0, 4, 2), n);
            due.is("deliver(0, 2)", x.deliver(0, 2), 4);
            due.is("deliver(0, 4)", x.deliver(0, 4), 4);
        }
    }

    private static void aLongRowOfMessages() {
        CausalPlaces x = new CausalPlaces();
        for (int i = 1; i <= 400; i++) {
            x.tick(5);
        }
        due.is("link(5, 4, 0)", x.link(5, 4, 0), 400);
        due.is("link(5, 1, 0)", x.link(5, 1, 0), 400);
        for (int i = 1; i <= 100; i++) {
            due.is("link(5, 1, 2)", x.link(5, 1, 2), i);
            due.is("deliver(5, 1)", x.deliver(5, 1), 5);
        }
        due.is("link(5, 1, 0)", x.link(5, 1, 0), 300);
        due.is("server(1, 12)", x.server(1, 12), 100);
    }
}
