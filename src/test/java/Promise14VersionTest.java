/** Promise 14: version. */
@Section("## Promise 14: version")
public final class Promise14VersionTest {
    public static void main(String[] args) {
        Due.runSentences(Promise14VersionTest.class);
    }

    @Says("Of the versions of a key that a server has, the i-th by being newer (0 the newest): its transaction.")
    static void newerOnesFirst(Due due) {
        Store x = new Store();
        for (int n = 0; n < 5; n++) {
            Steps.begin(x, 0, n, 0, n % 2 == 0 ? 2 : 4);
        }
        for (int i = 0; i < 5; i++) {
            due.is(x.version(0, 0, i), 4 - i);
        }
        due.is(x.version(0, 2, 0), 4);
        due.is(x.version(0, 2, 1), 2);
        due.is(x.version(0, 2, 2), 0);
        due.is(x.version(0, 4, 0), 3);
        due.is(x.version(0, 4, 1), 1);
        // Older ones that come later stand behind.
        Steps.ticks(x, 2, 9);
        Steps.begin(x, 1, 9, 0);
        for (int got = 0; got < 5; got++) {
            due.is(x.version(2, 0, 0), 5);
            for (int i = 0; i < got; i++) {
                due.is(x.version(2, 0, 1 + i), got - 1 - i);
            }
            x.deliver(0, 2);
        }
    }

    @Says("NONE when there is none such,")
    static void noneBeyondThem(Due due) {
        Store x = new Store();
        Steps.writeAll(x, 0, 1, 0, 1);
        Steps.writeAll(x, 0, 2, 0, 1);
        for (int s = 0; s < 2; s++) {
            due.is(x.version(s, s, 1), 0);
            for (int i : new int[] {-1, -2, 2, 3, 199, 200, Integer.MIN_VALUE, Integer.MAX_VALUE}) {
                due.is(x.version(s, s, i), -1);
            }
            due.is(x.version(s, s + 2, 0), -1);
            due.is(x.version(s + 2, s, 0), -1);
        }
        for (int s : Steps.WRONG_SERVERS) {
            due.is(x.version(s, 0, 0), -1);
            due.is(x.version(s, 1, 0), -1);
        }
    }

    @Says("or it does not keep the key.")
    static void noneForOtherKeys(Due due) {
        Store x = new Store();
        Steps.writeAll(x, 1, 1, 0, 1, 2, 3, 4, 5, 6, 7);
        for (int to = 0; to < 6; to++) {
            Steps.drain(x, 2 + to % 2, to);
        }
        for (int s = 0; s < 6; s++) {
            for (int k = 0; k < 8; k++) {
                due.is(x.version(s, k, 0), s % 2 == k % 2 ? 0 : -1);
            }
            for (int k : Steps.WRONG_KEYS) {
                due.is(x.version(s, k, 0), -1);
            }
        }
    }
}
