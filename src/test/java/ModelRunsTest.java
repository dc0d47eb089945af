/** Mixed runs of 512 calls: every answer is the model's. */
public final class ModelRunsTest {
    private static final int RUNS = 12000;
    private static final int[] WHATS = {
        -1, 0, 1, 2, 3, 4, 9, 10, 11, 12, 13, 19, 20, 21, 22, 23, 24, 25, 26, 27, 28, 29, 30, 31, 32, 33
    };
    // The dearest step of a run is a read with the look at its value.
    private static final int CALLS_OF_A_STEP = 2;
    private static final Due due = new Due("model runs");
    private static final int[] kindsTaken = new int[7];

    private static int seed;
    private static Store x;
    private static PlainModel y;
    private static int transactions;
    private static int mostDecided;
    private static int readsOfOthers;

    public static void main(String[] args) {
        for (int run = 0; run < RUNS; run++) {
            due.during(" run " + run);
            seed = 12345 + 7919 * run;
            x = new Store();
            y = new PlainModel();
            transactions = 0;
            run(run % 6, 60 + 100 * (run / 6 % 3));
        }
        reachedWhatMatters();
        due.end();
    }

    private static void run(int style, int looksAtTheEnd) {
        while (x.callsLeft() >= looksAtTheEnd + CALLS_OF_A_STEP) {
            if (style > 3 && next(style == 4 ? 12 : 40) == 0) {
                sweep(looksAtTheEnd);
            } else {
                step(style);
            }
        }
        while (x.callsLeft() > 0) {
            look();
        }
    }

    /** A run that never meets the rare states would prove nothing. */
    private static void reachedWhatMatters() {
        for (int kind = 1; kind <= 6; kind++) {
            due.is("messages of kind " + kind + " taken", kindsTaken[kind] > 1000, true);
        }
        due.is("rows of decided ones that wait", mostDecided >= 4, true);
        due.is("reads of other places' versions", readsOfOthers > 1000, true);
    }

    private static int next(int bound) {
        seed = seed * 1103515245 + 12345;
        return (seed >>> 16) % bound;
    }

    /** Mostly a good number, now and then a wrong one. */
    private static int pick(int bound) {
        int die = next(60);
        if (die == 0) {
            return -1;
        }
        return die == 1 ? bound + next(3) : next(bound);
    }

    private static void step(int style) {
        int die = next(100);
        if (die < 45) {
            clientStep(style, next(8) > 0);
        } else if (die < (style == 3 ? 65 : 85)) {
            deliver(style);
        } else if (die < 95) {
            int s = style == 1 ? next(2) : pick(6);
            due.is(x.tick(s), y.tick(s));
        } else {
            look();
        }
    }

    /** A call that fits what the client does, or just any one. */
    private static void clientStep(int style, boolean fitting) {
        // Few clients and keys make transactions meet one another.
        int c = style == 1 ? 3 * next(2) : pick(6);
        int k = style == 2 ? next(3) : style == 1 && next(8) > 0 ? 2 * next(4) : pick(8);
        int die = next(20);
        if (fitting && style != 1 && y.client(c, 0) == 2) {
            int first = 2 * (c % 3);
            take(first + die % 2, first + 1 - die % 2);
        } else if (fitting ? y.client(c, 0) == 0 : die < 4) {
            due.is(x.start(c), y.start(c));
        } else if (die < 8) {
            read(c, k);
        } else if (die < 15) {
            int v = next(2000) - 1000;
            due.is(x.write(c, k, v), y.write(c, k, v));
        } else if (die < 19) {
            commit(c);
        } else {
            due.is(x.abort(c), y.abort(c));
        }
    }

    private static void read(int c, int k) {
        int number = y.read(c, k);
        due.is(x.read(c, k), number);
        due.is(x.value(c), y.value(c));
        if (number >= 0 && y.transaction(number, 0) != c % 3) {
            readsOfOthers++;
        }
    }

    private static void commit(int c) {
        int number = y.commit(c);
        due.is(x.commit(c), number);
        transactions = Math.max(transactions, number + 1);
        mostDecided = Math.max(mostDecided, y.server(2 * (Math.max(c, 0) % 3), 2));
    }

    /** Mostly on a link that has a message. */
    private static void deliver(int style) {
        int from = 0;
        int to = 0;
        for (int tries = next(6); tries >= 0 && y.link(from, to, 0) <= 0; tries--) {
            from = style == 1 ? next(5) / 4 : pick(6);
            to = next(2) == 0 ? from ^ 1 : next(8) == 0 ? pick(6) : (from + 2 + 2 * next(2)) % 6;
        }
        take(from, to);
    }

    private static int take(int from, int to) {
        int kind = y.deliver(from, to);
        due.is(x.deliver(from, to), kind);
        if (kind > 0) {
            kindsTaken[kind]++;
        }
        return kind;
    }

    /** Ticks and full rows of messages, so that much becomes stable at a stroke. */
    private static void sweep(int callsToLeave) {
        int place = next(3);
        for (int i = 0; i < 6 && x.callsLeft() > callsToLeave; i++) {
            int s = (2 * place + i) % 6;
            if (next(3) > 0) {
                due.is(x.tick(s), y.tick(s));
            }
            takeAll(s, (s + 2) % 6, callsToLeave);
            takeAll(s, (s + 4) % 6, callsToLeave);
            takeAll(s, s ^ 1, callsToLeave);
        }
    }

    private static void takeAll(int from, int to, int callsToLeave) {
        int kind = next(4) > 0 ? 1 : 0;
        while (kind > 0 && x.callsLeft() > callsToLeave) {
            kind = take(from, to);
        }
    }

    private static void look() {
        int i = pick(6);
        int j = pick(6);
        int k = pick(8);
        int n = pick(transactions + 1);
        int what = WHATS[next(WHATS.length)];
        switch (next(8)) {
            case 0 -> due.is(x.client(i, what), y.client(i, what));
            case 1, 2 -> due.is(x.server(i, what), y.server(i, what));
            case 3 -> due.is(x.transaction(n, what), y.transaction(n, what));
            case 4 -> due.is(x.written(n, k), y.written(n, k));
            case 5, 6 -> lookAtVersion(i, k, pick(6));
            default -> due.is(x.link(i, j, what % 4), y.link(i, j, what % 4));
        }
    }

    private static void lookAtVersion(int s, int k, int i) {
        int kept = next(8) == 0 ? k : (k & ~1) | (s & 1);
        due.is(x.version(s, kept, i), y.version(s, kept, i));
    }
}
