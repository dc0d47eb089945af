/** No call throws, for wild arguments in any state, within the 512 calls and far beyond them. */
public final class NeverThrowsTest {
    private static final int CALLS = 6000;
    private static final int[] WILD = {
        Integer.MIN_VALUE, Integer.MIN_VALUE + 9, -1000, -31, -30, -11, -10, -9, -3, -2, -1, 199, 200, 201,
        1000, 715827883, Integer.MAX_VALUE - 9, Integer.MAX_VALUE
    };
    private static int seed;

    public static void main(String[] args) {
        Due due = new Due("never throws");
        for (int run = 0; run < 40; run++) {
            seed = run;
            due.is("calls of run " + run, callsThatEnd(run % 5), CALLS);
        }
        due.end();
    }

    private static int callsThatEnd(int style) {
        Store x = Store.beyondThePromisedCalls();
        int calls = 0;
        try {
            while (calls < CALLS) {
                call(x, style);
                calls++;
            }
        } catch (RuntimeException | Error e) {
            System.out.println(Store.latestCall() + " threw " + e);
            e.printStackTrace(System.out);
        }
        return calls;
    }

    private static int next(int bound) {
        seed = seed * 1103515245 + 12345;
        return (seed >>> 16) % bound;
    }

    private static int any(int bound) {
        return next(12) == 0 ? WILD[next(WILD.length)] : next(bound);
    }

    private static void call(Store x, int style) {
        switch (next(style == 0 ? 16 : 9)) {
            case 0 -> x.start(any(6));
            case 1 -> x.read(any(6), any(8));
            case 2, 3 -> x.write(any(6), any(8), any(5));
            case 4 -> x.commit(any(6));
            case 5, 6 -> x.deliver(any(6), any(6));
            case 7 -> x.tick(any(6));
            case 8 -> x.abort(style < 3 ? -1 : any(6));
            case 9 -> x.value(any(6));
            case 10 -> x.client(any(6), any(34));
            case 11 -> x.server(any(6), any(34));
            case 12 -> x.transaction(any(200), any(34));
            case 13 -> x.written(any(200), any(8));
            case 14 -> x.version(any(6), any(8), any(200));
            default -> x.link(any(6), any(6), any(4));
        }
    }
}
