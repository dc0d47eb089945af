/** Long mixed runs of calls: every answer, and at the end the whole state, is the model's. */
public final class ModelRunsTest {
    private static final int RUNS = 6000;
    private static final int CALLS = 512;
    private static final int WHATS = 34;
    private static final Due due = new Due("model runs");

    private static int seed;
    private static int calls;
    private static CausalPlaces x;
    private static PlainModel y;
    private static String now;
    private static final int[] asked = new int[7];
    private static int deepestDecided;
    private static int readsOfOthers;

    public static void main(String[] args) {
        for (int run = 0; run < RUNS; run++) {
            seed = 12345 + 7919 * run;
            x = new CausalPlaces();
            y = new PlainModel();
            int style = run % 6;
            for (calls = 0; calls < CALLS; calls++) {
                now = "run " + run + " call " + calls + ": ";
                if (style > 3 && next(style == 4 ? 12 : 40) == 0) {
                    sweep();
                } else {
                    call(style);
                }
            }
            now = "run " + run + " end: ";
            // Asking changes nothing, so the looks at the end can go beyond the 512 calls.
            compareAll();
        }
        reachedWhatMatters();
        due.end();
    }

    /** A run that never meets the rare states would prove nothing. */
    private static void reachedWhatMatters() {
        for (int kind = 1; kind <= 6; kind++) {
            due.is("messages of kind " + kind + " taken", asked[kind] > 1000, true);
        }
        System.out.println("reads of other places' versions: " + readsOfOthers + ", decided ones that wait: " + deepestDecided);
        due.is("rows of decided ones that wait", deepestDecided >= 5, true);
        due.is("reads of other places' versions", readsOfOthers > 1000, true);
    }

    private static int next(int bound) {
        seed = seed * 1103515245 + 12345;
        return (seed >>> 16) % bound;
    }

    /** Mostly a good number, now and then a wrong one. */
    private static int pick(int bound) {
        int die = next(60);
        if (die == 0) {
            return -1;
        }
        return die == 1 ? bound + next(3) : next(bound);
    }

    private static void call(int style) {
        int die = next(100);
        // Few clients and keys make transactions meet one another.
        int c = style == 0 ? pick(6) : style == 1 ? 3 * next(2) : pick(6);
        int k = style == 2 ? next(3) : style == 1 && next(8) > 0 ? 2 * next(4) : pick(8);
        int sends = style == 3 ? 30 : 45;
        if (style > 3 && next(3) == 0) {
            read(c, k);
        } else if (die < 10) {
            due.is(now + "start(" + c + ")", x.start(c), y.start(c));
        } else if (die < 17) {
            read(c, k);
        } else if (die < 31) {
            int v = next(2000) - 1000;
            due.is(now + "write(" + c + ", " + k + ", " + v + ")", x.write(c, k, v), y.write(c, k, v));
        } else if (die < 40) {
            due.is(now + "commit(" + c + ")", x.commit(c), y.commit(c));
        } else if (die < 41) {
            due.is(now + "abort(" + c + ")", x.abort(c), y.abort(c));
        } else if (die < 41 + sends) {
            deliver(style);
        } else if (die < 95) {
            int s = style == 1 ? next(2) : pick(6);
            due.is(now + "tick(" + s + ")", x.tick(s), y.tick(s));
        } else {
            look();
        }
    }

    private static void read(int c, int k) {
        int got = x.read(c, k);
        due.is(now + "read(" + c + ", " + k + ")", got, y.read(c, k));
        due.is(now + "value(" + c + ")", x.value(c), y.value(c));
        if (got >= 0 && x.transaction(got, 0) != c % 3) {
            readsOfOthers++;
        }
    }

    private static void deliver(int style) {
        int from = style == 1 ? next(5) / 4 : pick(6);
        int to = style == 1 && next(4) > 0 ? from ^ 1 : (from + 2 + 2 * next(2)) % 6;
        if (style != 1) {
            int die = next(10);
            to = die == 0 ? pick(6) : die < 5 ? from ^ 1 : to;
        }
        int kind = x.deliver(from, to);
        due.is(now + "deliver(" + from + ", " + to + ")", kind, y.deliver(from, to));
        if (kind > 0) {
            asked[kind]++;
        }
        deepestDecided = Math.max(deepestDecided, x.server(0, 2));
    }

    /** Ticks and full rows of messages, so that much becomes stable at a stroke. */
    private static void sweep() {
        int place = next(3);
        for (int i = 0; i < 6; i++) {
            int s = (2 * place + i) % 6;
            if (next(3) > 0) {
                due.is(now + "sweeping tick(" + s + ")", x.tick(s), y.tick(s));
                calls++;
            }
            takeAll(s, (s + 2) % 6);
            takeAll(s, (s + 4) % 6);
            takeAll(s, s ^ 1);
        }
    }

    private static void takeAll(int from, int to) {
        int kind = next(4) > 0 ? 1 : 0;
        while (kind > 0 && calls < CALLS) {
            kind = x.deliver(from, to);
            due.is(now + "sweeping deliver(" + from + ", " + to + ")", kind, y.deliver(from, to));
            calls++;
        }
    }

    private static void look() {
        int s = pick(6);
        int what = pick(WHATS);
        int n = pick(30);
        int k = pick(8);
        int to = pick(6);
        due.is(now + "client(" + s + ", " + what + ")", x.client(s, what), y.client(s, what));
        due.is(now + "server(" + s + ", " + what + ")", x.server(s, what), y.server(s, what));
        due.is(now + "transaction(" + n + ", " + what + ")", x.transaction(n, what), y.transaction(n, what));
        due.is(now + "written(" + n + ", " + k + ")", x.written(n, k), y.written(n, k));
        due.is(now + "version(" + s + ", " + k + ", " + n + ")", x.version(s, k, n), y.version(s, k, n));
        due.is(now + "link(" + s + ", " + to + ", 2)", x.link(s, to, 2), y.link(s, to, 2));
    }

    private static void compareAll() {
        for (int i = 0; i < 6; i++) {
            for (int what = -1; what <= WHATS; what++) {
                due.is(now + "client(" + i + ", " + what + ")", x.client(i, what), y.client(i, what));
                due.is(now + "server(" + i + ", " + what + ")", x.server(i, what), y.server(i, what));
            }
            for (int j = 0; j < 6; j++) {
                for (int what = -1; what <= 3; what++) {
                    due.is(now + "link(" + i + ", " + j + ", " + what + ")", x.link(i, j, what), y.link(i, j, what));
                }
            }
            for (int k = 0; k < 8; k++) {
                int end = x.server(i, 3);
                for (int v = -1; v <= end; v++) {
                    due.is(now + "version(" + i + ", " + k + ", " + v + ")", x.version(i, k, v), y.version(i, k, v));
                }
            }
        }
        int n = -1;
        do {
            for (int what = -1; what <= WHATS; what++) {
                due.is(now + "transaction(" + n + ", " + what + ")", x.transaction(n, what), y.transaction(n, what));
            }
            for (int k = -1; k <= 8; k++) {
                due.is(now + "written(" + n + ", " + k + ")", x.written(n, k), y.written(n, k));
            }
            n++;
        } while (y.transaction(n - 1, 0) >= 0 || n == 0);
    }
}
