/** Promise 11: server. */
public final class Promise11ServerTest {
    public static void main(String[] args) {
        Due due = new Due("server");
        CausalPlaces x = new CausalPlaces();
        int[] known = {0, 1, 2, 3, 10, 11, 12, 20, 21, 22, 30, 31, 32};
        for (int s : Steps.WRONG_SERVERS) {
            for (int what : known) {
                due.is("server(" + s + ", " + what + ")", x.server(s, what), -1);
            }
        }
        int[] others = {-1, 4, 9, 13, 19, 23, 29, 33, Integer.MIN_VALUE, Integer.MAX_VALUE};
        for (int what : others) {
            due.is("server(0, " + what + ")", x.server(0, what), -1);
        }
        Steps.begin(x, 0, 1, 0, 1, 2, 4);
        due.is("server(0, 0)", x.server(0, 0), 1);
        due.is("server(0, 1)", x.server(0, 1), 1);
        Steps.begin(x, 3, 1, 6);
        due.is("server(0, 1)", x.server(0, 1), 1);
        due.is("server(0, 2)", x.server(0, 2), 1);
        due.is("server(0, 3)", x.server(0, 3), 0);
        Steps.settlePlace(x, 0);
        due.is("server(0, 1)", x.server(0, 1), 0);
        due.is("server(0, 2)", x.server(0, 2), 0);
        due.is("server(0, 3), each once", x.server(0, 3), 2);
        due.is("server(1, 3)", x.server(1, 3), 1);
        Steps.drain(x, 0, 4);
        due.is("server(4, 3)", x.server(4, 3), 2);
        due.is("server(2, 3)", x.server(2, 3), 0);
        known(due);
        due.end();
    }

    private static void known(Due due) {
        CausalPlaces x = new CausalPlaces();
        for (int i = 0; i < 5; i++) {
            x.tick(4);
        }
        for (int i = 0; i < 3; i++) {
            x.tick(5);
        }
        x.deliver(5, 4);
        x.deliver(5, 4);
        due.is("server(4, 12)", x.server(4, 12), 5);
        due.is("server(4, 22)", x.server(4, 22), 2);
        due.is("server(4, 32)", x.server(4, 32), 2);
        Steps.drain(x, 4, 5);
        due.is("server(5, 12)", x.server(5, 12), 3);
        due.is("server(5, 22)", x.server(5, 22), 5);
        due.is("server(5, 32)", x.server(5, 32), 3);
        due.is("server(5, 10)", x.server(5, 10), 0);
        due.is("server(5, 21)", x.server(5, 21), 0);
        due.is("server(5, 30)", x.server(5, 30), 0);
    }
}
