import java.util.ArrayList;
import java.util.BitSet;
import java.util.List;

/**
 * The document's first sentence over mixed runs: every transaction reads one state, sees another one
 * whole or not at all, and only with all that it comes from. Of the document's rules this knows but
 * which version is newer; else it follows who read and wrote what. So it also finds what is wrong
 * where the class and PlainModel would misread a rule alike.
 */
public final class CausalRunsTest {
    private static final int RUNS = 16000;
    // Few clients and keys, so that 512 calls bring long rows of transactions that come from others.
    private static final int CLIENTS = 4;
    private static final int KEYS = 4;
    private static final int CALLS_OF_A_STEP = KEYS;
    private static final Due due = new Due("causal runs");

    private static int seed;
    private static int seenWithWhatTheyComeFrom;
    private static int statesReadAgain;

    private final Store x = new Store();
    private final List<Written> all = new ArrayList<>();
    private final List<Sight> sights = new ArrayList<>();
    private final Reader[] readers = new Reader[CLIENTS];
    // The clocks of one place run ahead, and one of the other places hears of it late.
    private final int fastPlace = next(3);
    private final int slowWay = 1 + next(2);

    /** A transaction that wrote, with the numbers of all that it comes from. */
    private record Written(int place, boolean[] keys, BitSet comesFrom) {
    }

    /** A client read what one transaction wrote for a key, and had seen that another one wrote it too. */
    private record Sight(int client, int key, int read, int alsoSeen) {
    }

    private static final class Reader {
        final BitSet past = new BitSet();
        boolean isOpen;
        boolean[] writes = new boolean[KEYS];
        int[] state;
    }

    private CausalRunsTest() {
        for (int c = 0; c < readers.length; c++) {
            readers[c] = new Reader();
        }
    }

    public static void main(String[] args) {
        for (int run = 0; run < RUNS; run++) {
            due.during(" run " + run);
            seed = 54321 + 7919 * run;
            new CausalRunsTest().run(run % 2 == 0 ? 14 : 24);
        }
        due.is("other places' transactions seen, with what they come from", seenWithWhatTheyComeFrom > 1000, true);
        due.is("states that were read again", statesReadAgain > 1000, true);
        due.end();
    }

    private static int next(int bound) {
        seed = seed * 1103515245 + 12345;
        return (seed >>> 16) % bound;
    }

    private void run(int stepsOfClients) {
        while (hasCallsForAStep()) {
            int die = next(30);
            if (die < stepsOfClients) {
                clientStep(next(CLIENTS));
            } else if (die < 28) {
                takeSome(next(6), next(3), 1 + next(4));
            } else {
                sweep(next(6));
            }
        }
        checkSights();
    }

    /** The times of all transactions are asked for at the end, a call for each. */
    private boolean hasCallsForAStep() {
        return x.callsLeft() > CALLS_OF_A_STEP + all.size();
    }

    /** Most servers tick and most rows of messages are taken, so that much is seen at a stroke. */
    private void sweep(int firstServer) {
        for (int i = 0; i < 6 && hasCallsForAStep(); i++) {
            int s = (firstServer + i) % 6;
            int ticks = s / 2 == fastPlace ? 3 : next(2);
            for (int t = 0; t < ticks; t++) {
                x.tick(s);
            }
            for (int way = 0; way < 3; way++) {
                takeSome(s, way, next(5) > 0 ? 40 : 0);
            }
        }
    }

    private void takeSome(int from, int way, int most) {
        int to = way == 0 ? from ^ 1 : (from + 2 * way) % 6;
        if (from / 2 == fastPlace && way == slowWay && next(12) > 0) {
            return;
        }
        for (int i = 0; i < most && hasCallsForAStep() && x.deliver(from, to) > 0; i++) {
            continue;
        }
    }

    private void clientStep(int c) {
        Reader r = readers[c];
        int die = next(10);
        if (!r.isOpen) {
            start(c);
        } else if (die < 4) {
            look(c);
        } else if (die < 7) {
            int key = next(KEYS);
            r.writes[key] |= x.write(c, key, next(100));
        } else if (die < 9) {
            commit(c);
        } else {
            r.isOpen = !x.abort(c);
        }
    }

    private void start(int c) {
        Reader r = readers[c];
        r.isOpen = x.start(c) == 1;
        r.writes = new boolean[KEYS];
        r.state = null;
        if (!r.isOpen) {
            int first = 2 * (c % 3);
            x.deliver(first, first + 1);
            x.deliver(first + 1, first);
        }
    }

    private void commit(int c) {
        Reader r = readers[c];
        int n = x.commit(c);
        r.isOpen = false;
        if (n < 0) {
            return;
        }
        due.is(n, all.size());
        all.add(new Written(c % 3, r.writes.clone(), (BitSet) r.past.clone()));
        r.past.set(n);
    }

    /** Reads every key in the transaction that the client has open. */
    private void look(int c) {
        int[] state = new int[KEYS];
        for (int k = 0; k < KEYS; k++) {
            state[k] = x.read(c, k);
        }
        Reader r = readers[c];
        readsOneState(r, state);
        BitSet seen = (BitSet) r.past.clone();
        for (int n : state) {
            if (n >= 0) {
                seen.set(n);
                seen.or(all.get(n).comesFrom());
            }
        }
        for (int n = seen.nextSetBit(0); n >= 0; n = seen.nextSetBit(n + 1)) {
            seesWhole(n, c, state);
        }
        r.past.or(seen);
    }

    private static void readsOneState(Reader r, int[] state) {
        for (int k = 0; k < KEYS; k++) {
            due.is("key " + k + " is read as the open one's write", state[k] == -2, r.writes[k]);
            if (r.state != null) {
                due.is("key " + k + " is read as before", state[k] == -2 || state[k] == r.state[k], true);
            }
        }
        statesReadAgain += r.state != null ? 1 : 0;
        r.state = state.clone();
    }

    private void seesWhole(int n, int c, int[] state) {
        Written t = all.get(n);
        for (int k = 0; k < KEYS; k++) {
            if (t.keys()[k] && state[k] != -2) {
                sights.add(new Sight(c, k, state[k], n));
            }
        }
        if (t.place() != c % 3 && !t.comesFrom().isEmpty()) {
            seenWithWhatTheyComeFrom++;
        }
    }

    /** What was read is what was also seen, or something newer. */
    private void checkSights() {
        int[] times = new int[all.size()];
        for (int n = 0; n < times.length; n++) {
            times[n] = x.transaction(n, 1);
        }
        for (Sight s : sights) {
            due.is(s.toString(), s.read() == s.alsoSeen() || isNewer(s.read(), s.alsoSeen(), times), true);
        }
    }

    private boolean isNewer(int n, int other, int[] times) {
        if (n < 0 || all.get(other).comesFrom().get(n)) {
            return false;
        }
        if (times[n] != times[other]) {
            return times[n] > times[other];
        }
        int place = all.get(n).place();
        int otherPlace = all.get(other).place();
        return place != otherPlace ? place > otherPlace : n > other;
    }
}
