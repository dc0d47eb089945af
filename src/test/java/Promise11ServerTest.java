/** Promise 11: server. */
@Section("## Promise 11: server")
public final class Promise11ServerTest {
    public static void main(String[] args) {
        Due.runSentences(Promise11ServerTest.class);
    }

    /** KNOWN of server 4 is (1, 2, 5), and HEARD (3, 1, 2). */
    private static Store known() {
        Store x = new Store();
        x.tick(0);
        x.deliver(0, 4);
        Steps.ticks(x, 2, 2);
        Steps.drain(x, 2, 4);
        Steps.ticks(x, 4, 5);
        Steps.ticks(x, 1, 3);
        Steps.drain(x, 1, 5);
        x.tick(3);
        x.deliver(3, 5);
        Steps.ticks(x, 5, 2);
        Steps.drain(x, 5, 4);
        return x;
    }

    private static void vector(Due due, Store x, int server, int what, int... numbers) {
        for (int p = 0; p < 3; p++) {
            due.is(x.server(server, what + p), numbers[p]);
        }
    }

    @Says("Of a server: 0 its CLOCK,")
    static void clock(Due due) {
        Store x = new Store();
        Steps.ticks(x, 4, 5);
        due.is(x.server(4, 0), 5);
        due.is(x.server(5, 0), 0);
        Steps.begin(x, 2, 1, 0);
        due.is(x.server(4, 0), 6);
    }

    @Says("1 how many are prepared,")
    static void prepared(Due due) {
        Store x = new Store();
        int[] clients = {0, 3};
        for (int i = 0; i < 2; i++) {
            due.is(x.server(0, 1), i);
            Steps.begin(x, clients[i], 1, 0, 1, 2);
        }
        due.is(x.server(0, 1), 2);
        due.is(x.server(1, 1), 0);
        x.deliver(0, 1);
        due.is(x.server(1, 1), 1);
        x.deliver(0, 1);
        due.is(x.server(1, 1), 2);
        x.deliver(1, 0);
        due.is(x.server(0, 1), 1);
        due.is(x.server(1, 1), 2);
        // One that is decided, and waits, is not prepared.
        Steps.begin(x, 0, 1, 0);
        due.is(x.server(0, 2), 1);
        due.is(x.server(0, 1), 1);
        Steps.settlePlace(x, 0);
        due.is(x.server(0, 1), 0);
        due.is(x.server(1, 1), 0);
    }

    @Says("2 how many are decided,")
    static void decided(Due due) {
        Store x = new Store();
        Steps.begin(x, 0, 1, 0, 1);
        for (int i = 0; i < 3; i++) {
            due.is(x.server(0, 2), i);
            Steps.begin(x, 3, 1, 0, 2);
        }
        due.is(x.server(0, 2), 3);
        due.is(x.server(1, 2), 0);
        Steps.settlePlace(x, 0);
        due.is(x.server(0, 2), 0);
    }

    @Says("3 how many it applied or got")
    static void appliedOrGot(Due due) {
        Store x = new Store();
        Steps.writeAll(x, 0, 1, 0, 1);
        Steps.writeAll(x, 3, 1, 0);
        due.is(x.server(0, 3), 2);
        due.is(x.server(1, 3), 1);
        due.is(x.server(4, 3), 0);
        x.deliver(0, 4);
        due.is(x.server(4, 3), 1);
        x.deliver(0, 4);
        due.is(x.server(4, 3), 2);
        due.is(x.server(2, 3), 0);
        Steps.begin(x, 2, 1, 6);
        due.is(x.server(4, 3), 3);
        // Neither one that is prepared nor one that is decided and waits.
        Steps.begin(x, 2, 1, 6, 7);
        Steps.begin(x, 5, 1, 6);
        due.is(x.server(4, 1), 1);
        due.is(x.server(4, 2), 1);
        due.is(x.server(4, 3), 3);
    }

    @Says("(each once, whatever its keys);")
    static void eachOnce(Due due) {
        Store x = new Store();
        Steps.writeAll(x, 0, 1, 0, 1, 2, 3, 4, 5, 6, 7);
        for (int to = 2; to < 6; to++) {
            Steps.drain(x, to % 2, to);
        }
        for (int s = 0; s < 6; s++) {
            due.is(x.server(s, 3), 1);
        }
    }

    @Says("10 to 12 KNOWN,")
    static void knownNumbers(Due due) {
        Store x = known();
        vector(due, x, 4, 10, 1, 2, 5);
        vector(due, x, 5, 10, 3, 1, 2);
    }

    @Says("20 to 22 HEARD,")
    static void heardNumbers(Due due) {
        Store x = known();
        vector(due, x, 4, 20, 3, 1, 2);
        vector(due, x, 5, 20, 0, 0, 0);
        Steps.drain(x, 4, 5);
        vector(due, x, 5, 20, 1, 2, 5);
    }

    @Says("30 to 32 STABLE.")
    static void stableNumbers(Due due) {
        Store x = known();
        vector(due, x, 4, 30, 1, 1, 2);
        vector(due, x, 5, 30, 0, 0, 0);
        Steps.drain(x, 4, 5);
        vector(due, x, 5, 30, 1, 1, 2);
    }

    @Says("NONE for others,")
    static void noneForOthers(Due due) {
        Store x = known();
        int[] others = {
            -1, -2, -10, 4, 9, 13, 19, 23, 29, 33, 40, Integer.MIN_VALUE, Integer.MIN_VALUE + 9,
            Integer.MIN_VALUE + 10, Integer.MIN_VALUE + 19, Integer.MIN_VALUE + 29, Integer.MAX_VALUE
        };
        for (int s = 0; s < 6; s++) {
            for (int what : others) {
                due.is(x.server(s, what), -1);
            }
        }
    }

    @Says("or no such server.")
    static void noSuchServer(Due due) {
        Store x = known();
        for (int s : Steps.WRONG_SERVERS) {
            for (int what : new int[] {0, 1, 2, 3, 10, 11, 12, 20, 21, 22, 30, 31, 32, 33}) {
                due.is(x.server(s, what), -1);
            }
        }
    }
}
