/** Promise 5: write. */
public final class Promise05WriteTest {
    public static void main(String[] args) {
        Due due = new Due("write");
        CausalPlaces x = new CausalPlaces();
        due.is("write(0, 0, 1) with nothing open", x.write(0, 0, 1), false);
        for (int c : Steps.WRONG_CLIENTS) {
            due.is("write(" + c + ", 0, 1)", x.write(c, 0, 1), false);
        }
        x.start(0);
        for (int k : Steps.WRONG_KEYS) {
            due.is("write(0, " + k + ", 1)", x.write(0, k, 1), false);
        }
        due.is("client(0, 3)", x.client(0, 3), 0);
        for (int k = 0; k < 8; k++) {
            due.is("write(0, " + k + ", k)", x.write(0, k, 100 + k), true);
            due.is("client(0, 3)", x.client(0, 3), k + 1);
        }
        due.is("write(0, 5, 7) again", x.write(0, 5, 7), true);
        due.is("client(0, 3)", x.client(0, 3), 8);
        due.is("client(3, 3)", x.client(3, 3), 0);
        due.is("server(0, 0): nothing is sent", x.server(0, 0), 0);
        due.is("commit(0)", x.commit(0), 0);
        for (int k = 0; k < 8; k++) {
            due.is("written(0, " + k + ")", x.written(0, k), k == 5 ? 7 : 100 + k);
        }
        due.is("write(0, 0, 1) while committing", x.write(0, 0, 1), false);
        due.is("written(0, 0)", x.written(0, 0), 100);
        Steps.settlePlace(x, 0);
        due.is("write(0, 0, 1) when over", x.write(0, 0, 1), false);
        x.start(0);
        due.is("write(0, 0, 1)", x.write(0, 0, 1), true);
        due.is("written(0, 0), of the one before", x.written(0, 0), 100);
        x.abort(0);
        due.is("write(0, 0, 1) after abort", x.write(0, 0, 1), false);
        due.end();
    }
}
