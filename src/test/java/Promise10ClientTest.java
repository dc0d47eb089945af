/** Promise 10: client. */
public final class Promise10ClientTest {
    public static void main(String[] args) {
        Due due = new Due("client");
        CausalPlaces x = new CausalPlaces();
        for (int c : Steps.WRONG_CLIENTS) {
            for (int what : new int[] {0, 1, 2, 3, 10, 11, 12}) {
                due.is("client(" + c + ", " + what + ")", x.client(c, what), -1);
            }
        }
        int[] others = {-1, 4, 5, 9, 13, 20, 30, Integer.MIN_VALUE, Integer.MAX_VALUE};
        for (int what : others) {
            due.is("client(0, " + what + ")", x.client(0, what), -1);
        }
        x.start(4);
        due.is("client(4, 0) open", x.client(4, 0), 1);
        x.write(4, 0, 1);
        x.write(4, 3, 1);
        x.write(4, 3, 2);
        due.is("client(4, 3)", x.client(4, 3), 2);
        due.is("client(1, 3), the other one there", x.client(1, 3), 0);
        x.commit(4);
        due.is("client(4, 0) committing", x.client(4, 0), 2);
        due.is("client(4, 3) without an open one", x.client(4, 3), 0);
        due.is("client(4, 1) not over", x.client(4, 1), 0);
        due.is("client(4, 2) not over", x.client(4, 2), 0);
        Steps.settlePlace(x, 1);
        due.is("client(4, 0) over", x.client(4, 0), 0);
        due.is("client(4, 1)", x.client(4, 1), 1);
        due.is("client(4, 2)", x.client(4, 2), 2);
        due.is("client(1, 2), the other one there", x.client(1, 2), 0);
        Steps.stabilise(x);
        due.is("client(4, 11) before start", x.client(4, 11), 0);
        x.start(4);
        due.is("client(4, 10)", x.client(4, 10), x.server(2, 30));
        due.is("client(4, 11)", x.client(4, 11), 3);
        due.is("client(4, 12)", x.client(4, 12), x.server(2, 32));
        due.is("client(4, 2)", x.client(4, 2), 0);
        due.is("client(4, 1) stays", x.client(4, 1), 1);
        due.end();
    }
}
