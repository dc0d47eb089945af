/** No call throws, for wild arguments in any state, within the 512 calls and far beyond them. */
public final class NeverThrowsTest {
    private static final int[] WILD = {
        Integer.MIN_VALUE, Integer.MIN_VALUE + 9, -1000, -31, -30, -11, -10, -9, -3, -2, -1, 199, 200, 201,
        1000, Integer.MAX_VALUE - 9, Integer.MAX_VALUE
    };
    private static int seed;
    private static int calls;

    public static void main(String[] args) {
        Due due = new Due("never throws");
        for (int run = 0; run < 40; run++) {
            seed = run;
            calls = 0;
            CausalPlaces x = new CausalPlaces();
            try {
                for (int i = 0; i < 6000; i++) {
                    call(x, run % 5);
                }
            } catch (RuntimeException | Error e) {
                System.out.println("run " + run + " call " + calls + ": " + e);
                e.printStackTrace(System.out);
            }
            due.is("calls of run " + run, calls, 6000);
        }
        manyTransactions(due);
        manyMessages(due);
        due.end();
    }

    private static int next(int bound) {
        seed = seed * 1103515245 + 12345;
        return (seed >>> 16) % bound;
    }

    private static int any(int bound) {
        return next(12) == 0 ? WILD[next(WILD.length)] : next(bound);
    }

    private static void call(CausalPlaces x, int style) {
        switch (next(style == 0 ? 14 : 9)) {
            case 0 -> x.start(any(6));
            case 1 -> x.read(any(6), any(8));
            case 2, 3 -> x.write(any(6), any(8), any(5));
            case 4 -> x.commit(any(6));
            case 5, 6 -> x.deliver(any(6), any(6));
            case 7 -> x.tick(any(6));
            case 8 -> x.abort(style < 3 ? -1 : any(6));
            case 9 -> x.value(any(6));
            case 10 -> x.client(any(6), any(34));
            case 11 -> x.server(any(6), any(34));
            case 12 -> x.transaction(any(200), any(34)) ;
            default -> {
                x.written(any(200), any(8));
                x.version(any(6), any(8), any(200));
                x.link(any(6), any(6), any(4));
            }
        }
        calls++;
    }

    /** Beyond the promised 512 calls, but the numbers still end at 200. */
    private static void manyTransactions(Due due) {
        CausalPlaces x = new CausalPlaces();
        for (int n = 0; n < 200; n++) {
            Steps.begin(x, n % 6, n, 0);
        }
        x.start(0);
        x.write(0, 0, 1);
        due.is("commit(0) of one too many", x.commit(0), -3);
        due.is("client(0, 0), it stays open", x.client(0, 0), 1);
        due.is("client(0, 3), with its writes", x.client(0, 3), 1);
        due.is("transaction(200, 0)", x.transaction(200, 0), -1);
        x.start(1);
        due.is("commit(1) that wrote nothing", x.commit(1), -2);
        for (int s = 0; s < 6; s += 2) {
            for (int to = 0; to < 6; to += 2) {
                Steps.drain(x, s, to);
            }
        }
        due.is("server(4, 3)", x.server(4, 3), 200);
    }

    private static void manyMessages(Due due) {
        CausalPlaces x = new CausalPlaces();
        for (int i = 0; i < 512; i++) {
            x.tick(0);
        }
        due.is("link(0, 1, 0) after 512 calls", x.link(0, 1, 0), 512);
        due.is("link(0, 4, 0) after 512 calls", x.link(0, 4, 0), 512);
        for (int i = 0; i < 5000; i++) {
            x.tick(0);
        }
        Steps.drain(x, 0, 1);
        due.is("link(0, 1, 0) when all are taken", x.link(0, 1, 0), 0);
    }
}
