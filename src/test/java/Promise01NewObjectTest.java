/** Promise 1: nothing written, no transactions. */
public final class Promise01NewObjectTest {
    public static void main(String[] args) {
        Due due = new Due("new object");
        CausalPlaces x = new CausalPlaces();
        due.is("NONE", CausalPlaces.NONE, -1);
        for (int c = 0; c < 6; c++) {
            due.is("value(" + c + ")", x.value(c), 0);
            for (int what : new int[] {0, 1, 2, 3, 10, 11, 12}) {
                due.is("client(" + c + ", " + what + ")", x.client(c, what), 0);
            }
        }
        for (int s = 0; s < 6; s++) {
            for (int what : new int[] {0, 1, 2, 3, 10, 11, 12, 20, 21, 22, 30, 31, 32}) {
                due.is("server(" + s + ", " + what + ")", x.server(s, what), 0);
            }
            for (int k = 0; k < 8; k++) {
                due.is("version(" + s + ", " + k + ", 0)", x.version(s, k, 0), -1);
            }
        }
        due.is("transaction(0, 0)", x.transaction(0, 0), -1);
        due.is("written(0, 0)", x.written(0, 0), 0);
        for (int from = 0; from < 6; from++) {
            for (int to = 0; to < 6; to++) {
                boolean linked = from != to && (from / 2 == to / 2 || from % 2 == to % 2);
                due.is("link(" + from + ", " + to + ", 0)", x.link(from, to, 0), linked ? 0 : -1);
            }
        }
        twoObjectsShareNothing(due);
        due.end();
    }

    private static void twoObjectsShareNothing(Due due) {
        CausalPlaces one = new CausalPlaces();
        CausalPlaces other = new CausalPlaces();
        Steps.begin(one, 0, 5, 0);
        one.tick(0);
        due.is("other transaction(0, 0)", other.transaction(0, 0), -1);
        due.is("other server(0, 0)", other.server(0, 0), 0);
        due.is("other link(0, 2, 0)", other.link(0, 2, 0), 0);
        due.is("other start(0)", other.start(0), 1);
        due.is("other read(0, 0)", other.read(0, 0), -3);
    }
}
