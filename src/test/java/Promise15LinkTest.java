/** Promise 15: link. */
public final class Promise15LinkTest {
    private static final Due due = new Due("link");

    public static void main(String[] args) {
        wrongInputs();
        everyKind();
        due.end();
    }

    private static void wrongInputs() {
        CausalPlaces x = new CausalPlaces();
        for (int from = -1; from < 8; from++) {
            for (int to = -1; to < 8; to++) {
                boolean exist = from >= 0 && from < 6 && to >= 0 && to < 6;
                boolean linked = exist && from != to && (from / 2 == to / 2 || from % 2 == to % 2);
                String name = "link(" + from + ", " + to + ", ";
                due.is(name + "0)", x.link(from, to, 0), linked ? 0 : -1);
                due.is(name + "1)", x.link(from, to, 1), linked ? 0 : -1);
                due.is(name + "2)", x.link(from, to, 2), -1);
                due.is(name + "3)", x.link(from, to, 3), -1);
                due.is(name + "-1)", x.link(from, to, -1), -1);
            }
        }
        x.tick(0);
        for (int what : new int[] {-1, 3, Integer.MIN_VALUE, Integer.MAX_VALUE}) {
            due.is("link(0, 1, " + what + ")", x.link(0, 1, what), -1);
        }
    }

    private static void first(CausalPlaces x, int from, int to, int count, int kind, int number) {
        String name = "link(" + from + ", " + to + ", ";
        due.is(name + "0)", x.link(from, to, 0), count);
        due.is(name + "1)", x.link(from, to, 1), kind);
        due.is(name + "2)", x.link(from, to, 2), number);
    }

    private static void everyKind() {
        CausalPlaces x = new CausalPlaces();
        Steps.begin(x, 0, 1, 0);
        Steps.begin(x, 0, 2, 0, 1);
        first(x, 0, 1, 1, 1, 1);
        first(x, 1, 0, 0, 0, -1);
        x.deliver(0, 1);
        first(x, 0, 1, 0, 0, -1);
        first(x, 1, 0, 1, 2, 1);
        x.deliver(1, 0);
        first(x, 1, 0, 0, 0, -1);
        first(x, 0, 1, 1, 3, 1);
        first(x, 0, 2, 2, 4, 0);
        first(x, 0, 4, 2, 4, 0);
        first(x, 2, 0, 0, 0, -1);
        x.deliver(0, 2);
        first(x, 0, 2, 1, 4, 1);
        first(x, 0, 4, 2, 4, 0);
        for (int i = 0; i < 7; i++) {
            x.tick(4);
        }
        first(x, 4, 0, 7, 5, 1);
        first(x, 4, 2, 7, 5, 1);
        first(x, 4, 5, 7, 6, -1);
        x.deliver(4, 0);
        first(x, 4, 0, 6, 5, 2);
        x.tick(0);
        first(x, 0, 1, 2, 3, 1);
        x.deliver(0, 1);
        first(x, 0, 1, 1, 6, -1);
    }
}
