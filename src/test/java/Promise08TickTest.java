/** Promise 8: tick. */
@Section("## Promise 8: tick")
public final class Promise08TickTest {
    public static void main(String[] args) {
        Due.runSentences(Promise08TickTest.class);
    }

    @Says("TICK of a server: its CLOCK.")
    static void theClockAfterItHasRisen(Due due) {
        Store x = new Store();
        for (int s = 0; s < 6; s++) {
            due.is(x.tick(s), 1);
            due.is(x.tick(s), 2);
            due.is(x.server(s, 0), 2);
        }
        // The CLOCK, and not KNOWN, when something is prepared.
        Steps.begin(x, 0, 1, 0, 1);
        due.is(x.tick(0), 4);
        due.is(x.server(0, 10), 2);
    }

    @Says("NONE: no such server.")
    static void noSuchServer(Due due) {
        Store x = Steps.busy();
        for (int s : Steps.WRONG_SERVERS) {
            due.is(x.tick(s), -1);
        }
        due.alike("a tick of no server", x, Steps.busy());
    }
}
