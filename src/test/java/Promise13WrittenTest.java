/** Promise 13: written. */
public final class Promise13WrittenTest {
    public static void main(String[] args) {
        Due due = new Due("written");
        CausalPlaces x = new CausalPlaces();
        x.start(2);
        x.write(2, 0, Integer.MAX_VALUE);
        x.write(2, 7, -3);
        x.write(2, 7, -4);
        due.is("written(0, 7) before commit", x.written(0, 7), 0);
        x.commit(2);
        due.is("written(0, 0)", x.written(0, 0), Integer.MAX_VALUE);
        due.is("written(0, 7)", x.written(0, 7), -4);
        for (int k = 1; k < 7; k++) {
            due.is("written(0, " + k + ")", x.written(0, k), 0);
        }
        for (int k : Steps.WRONG_KEYS) {
            due.is("written(0, " + k + ")", x.written(0, k), 0);
        }
        for (int n : new int[] {-1, 1, 199, 200, Integer.MIN_VALUE, Integer.MAX_VALUE}) {
            due.is("written(" + n + ", 0)", x.written(n, 0), 0);
        }
        Steps.settlePlace(x, 2);
        Steps.writeAll(x, 2, 55, 7);
        due.is("written(0, 7) stays", x.written(0, 7), -4);
        due.is("written(1, 7)", x.written(1, 7), 55);
        due.is("written(1, 0)", x.written(1, 0), 0);
        due.end();
    }
}
