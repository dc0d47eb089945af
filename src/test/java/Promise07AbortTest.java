/** Promise 7: abort. */
public final class Promise07AbortTest {
    public static void main(String[] args) {
        Due due = new Due("abort");
        CausalPlaces x = new CausalPlaces();
        for (int c : Steps.WRONG_CLIENTS) {
            due.is("abort(" + c + ")", x.abort(c), false);
        }
        for (int c = 0; c < 6; c++) {
            due.is("abort(" + c + ") with nothing open", x.abort(c), false);
        }
        x.start(0);
        x.start(3);
        x.write(0, 0, 1);
        x.write(0, 1, 1);
        due.is("abort(0)", x.abort(0), true);
        due.is("client(0, 0)", x.client(0, 0), 0);
        due.is("client(0, 3)", x.client(0, 3), 0);
        due.is("client(3, 0), another client", x.client(3, 0), 1);
        due.is("abort(0) again", x.abort(0), false);
        due.is("commit(0)", x.commit(0), -1);
        due.is("transaction(0, 0)", x.transaction(0, 0), -1);
        due.is("link(0, 1, 0)", x.link(0, 1, 0), 0);
        due.is("server(0, 0)", x.server(0, 0), 0);
        x.start(0);
        due.is("read(0, 0)", x.read(0, 0), -3);
        x.write(0, 1, 2);
        x.commit(0);
        due.is("abort(0) while committing", x.abort(0), false);
        due.is("client(0, 0)", x.client(0, 0), 2);
        Steps.settlePlace(x, 0);
        due.is("abort(0) when over", x.abort(0), false);
        due.is("client(0, 2)", x.client(0, 2), 1);
        x.start(0);
        x.write(0, 1, 3);
        due.is("abort(0)", x.abort(0), true);
        due.is("client(0, 2), own ones stay", x.client(0, 2), 1);
        x.start(0);
        due.is("read(0, 1)", x.read(0, 1), 0);
        due.is("value(0)", x.value(0), 2);
        due.end();
    }
}
