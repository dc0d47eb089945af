/** Promise 15: link. */
@Section("## Promise 15: link")
public final class Promise15LinkTest {
    public static void main(String[] args) {
        Due.runSentences(Promise15LinkTest.class);
    }

    @Says("Of a link: 0 how many messages,")
    static void howManyMessages(Due due) {
        Store x = new Store();
        for (int i = 0; i < 100; i++) {
            due.is(x.link(4, 5, 0), i);
            x.tick(4);
        }
        due.is(x.link(4, 0, 0), 100);
        due.is(x.link(4, 2, 0), 100);
        due.is(x.link(5, 4, 0), 0);
        for (int i = 99; i >= 0; i--) {
            x.deliver(4, 0);
            due.is(x.link(4, 0, 0), i);
        }
        x.deliver(4, 0);
        due.is(x.link(4, 0, 0), 0);
        due.is(x.link(4, 2, 0), 100);
    }

    @Says("1 the first one's kind")
    static void theFirstKind(Due due) {
        Store x = new Store();
        Steps.begin(x, 0, 2, 0, 1);
        due.is(x.link(0, 1, 1), 1);
        x.tick(0);
        due.is(x.link(0, 1, 1), 1);
        x.deliver(0, 1);
        due.is(x.link(0, 1, 1), 6);
        due.is(x.link(1, 0, 1), 2);
        x.deliver(0, 1);
        x.deliver(1, 0);
        due.is(x.link(0, 1, 1), 3);
        due.is(x.link(0, 2, 1), 5);
        x.deliver(0, 2);
        due.is(x.link(0, 2, 1), 4);
        due.is(x.link(0, 4, 1), 5);
    }

    @Says("(0),")
    static void noKindWithoutAMessage(Due due) {
        Store x = new Store();
        for (int from = 0; from < 6; from++) {
            for (int to = 0; to < 6; to++) {
                if (Steps.areLinked(from, to)) {
                    due.is(x.link(from, to, 1), 0);
                }
            }
        }
        x.tick(0);
        due.is(x.link(0, 2, 1), 5);
        x.deliver(0, 2);
        due.is(x.link(0, 2, 1), 0);
        due.is(x.link(2, 0, 1), 0);
    }

    @Says("2 its transaction's number")
    static void theTransactionsNumber(Due due) {
        Store x = new Store();
        Steps.begin(x, 0, 1, 0);
        Steps.begin(x, 0, 1, 2);
        Steps.begin(x, 0, 2, 0, 1);
        due.is(x.link(0, 1, 2), 2);
        x.deliver(0, 1);
        due.is(x.link(1, 0, 2), 2);
        x.deliver(1, 0);
        due.is(x.link(0, 1, 2), 2);
        for (int n = 0; n < 3; n++) {
            due.is(x.link(0, 2, 2), n);
            x.deliver(0, 2);
        }
        due.is(x.link(0, 4, 2), 0);
    }

    @Says("(UPTO: its number;")
    static void whatUptoTells(Due due) {
        Store x = new Store();
        Steps.ticks(x, 4, 2);
        Steps.begin(x, 2, 1, 0, 1);
        Steps.ticks(x, 4, 2);
        // The third tick and the fourth one tell what is below the prepared time 3.
        int[] told = {1, 2, 2, 2};
        for (int number : told) {
            due.is(x.link(4, 0, 2), number);
            due.is(x.link(4, 0, 1), 5);
            x.deliver(4, 0);
        }
        // It may be 0.
        Store y = new Store();
        Steps.begin(y, 2, 1, 0, 1);
        y.tick(4);
        due.is(y.link(4, 0, 2), 0);
    }

    @Says("GOSSIP: NONE;")
    static void gossipHasNoNumber(Due due) {
        Store x = new Store();
        for (int s = 0; s < 6; s++) {
            Steps.ticks(x, s, 3);
            int other = s % 2 == 0 ? s + 1 : s - 1;
            due.is(x.link(s, other, 1), 6);
            due.is(x.link(s, other, 2), -1);
        }
    }

    @Says("none: NONE).")
    static void noNumberWithoutAMessage(Due due) {
        Store x = new Store();
        for (int from = 0; from < 6; from++) {
            for (int to = 0; to < 6; to++) {
                if (Steps.areLinked(from, to)) {
                    due.is(x.link(from, to, 2), -1);
                }
            }
        }
        x.tick(0);
        x.deliver(0, 2);
        due.is(x.link(0, 2, 2), -1);
        due.is(x.link(0, 4, 2), 1);
    }

    @Says("NONE for others,")
    static void noneForOthers(Due due) {
        Store x = Steps.busy();
        for (int what : new int[] {-1, -2, 3, 4, 10, Integer.MIN_VALUE, Integer.MAX_VALUE}) {
            for (int from = 0; from < 6; from++) {
                for (int to = 0; to < 6; to++) {
                    if (Steps.areLinked(from, to)) {
                        due.is(x.link(from, to, what), -1);
                    }
                }
            }
        }
    }

    @Says("or no such link.")
    static void noSuchLink(Due due) {
        Store x = Steps.busy();
        for (int[] wrong : Steps.WRONG_LINKS) {
            for (int what = 0; what <= 3; what++) {
                due.is(x.link(wrong[0], wrong[1], what), -1);
            }
        }
        for (int from = 0; from < 6; from++) {
            for (int to = 0; to < 6; to++) {
                due.is(x.link(from, to, 0) >= 0, Steps.areLinked(from, to));
            }
        }
    }
}
