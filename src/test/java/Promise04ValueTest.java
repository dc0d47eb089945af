/** Promise 4: value. */
public final class Promise04ValueTest {
    public static void main(String[] args) {
        Due due = new Due("value");
        CausalPlaces x = new CausalPlaces();
        for (int c : Steps.WRONG_CLIENTS) {
            due.is("value(" + c + ")", x.value(c), 0);
        }
        due.is("value(0) at first", x.value(0), 0);
        x.start(0);
        x.write(0, 2, -5);
        due.is("value(0) after a write", x.value(0), 0);
        x.read(0, 2);
        due.is("value(0) of its own write", x.value(0), -5);
        x.write(0, 2, Integer.MIN_VALUE);
        due.is("value(0) before it reads again", x.value(0), -5);
        x.read(0, 2);
        due.is("value(0) of the later write", x.value(0), Integer.MIN_VALUE);
        x.read(0, 8);
        due.is("value(0) after a read that was none", x.value(0), Integer.MIN_VALUE);
        due.is("value(3), another client", x.value(3), 0);
        x.commit(0);
        due.is("value(0) after commit", x.value(0), Integer.MIN_VALUE);
        x.start(0);
        due.is("value(0) after start", x.value(0), Integer.MIN_VALUE);
        x.read(0, 4);
        due.is("value(0) when nothing was there", x.value(0), 0);
        x.read(0, 2);
        due.is("value(0) of its own version", x.value(0), Integer.MIN_VALUE);
        x.abort(0);
        due.is("value(0) after abort", x.value(0), Integer.MIN_VALUE);
        x.read(0, 4);
        due.is("value(0) after a read with nothing open", x.value(0), Integer.MIN_VALUE);
        for (int c : Steps.WRONG_CLIENTS) {
            due.is("value(" + c + ")", x.value(c), 0);
        }
        due.end();
    }
}
