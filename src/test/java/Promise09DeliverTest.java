/** Promise 9: deliver. */
@Section("## Promise 9: deliver")
public final class Promise09DeliverTest {
    public static void main(String[] args) {
        Due.runSentences(Promise09DeliverTest.class);
    }

    @Says("The first message from a server to another one is taken:")
    static void theFirstMessageAloneIsTaken(Due due) {
        Store x = new Store();
        Steps.ticks(x, 5, 200);
        Steps.ticks(x, 1, 2);
        for (int i = 1; i <= 80; i++) {
            due.is(x.link(5, 1, 2), i);
            due.is(x.deliver(5, 1), 5);
            due.is(x.server(1, 12), i);
        }
        due.is(x.link(5, 1, 0), 120);
        due.is(x.link(5, 3, 0), 200);
        due.is(x.link(5, 4, 0), 200);
        due.is(x.link(1, 5, 0), 2);
    }

    @Says("its kind (1 PREPARE, 2 PREPARED, 3 DECIDE, 4 VERSIONS, 5 UPTO, 6 GOSSIP);")
    static void theKinds(Due due) {
        for (int place = 0; place < 3; place++) {
            Store x = new Store();
            int first = 2 * place;
            int away = (first + 2) % 6;
            Steps.begin(x, place, 1, 0, 1);
            due.is(x.deliver(first, first + 1), 1);
            due.is(x.deliver(first + 1, first), 2);
            due.is(x.deliver(first, first + 1), 3);
            x.tick(first);
            x.tick(first + 1);
            due.is(x.deliver(first, away), 4);
            due.is(x.deliver(first, away), 5);
            due.is(x.deliver(first + 1, away + 1), 4);
            due.is(x.deliver(first + 1, away + 1), 5);
            due.is(x.deliver(first, first + 1), 6);
            due.is(x.deliver(first + 1, first), 6);
        }
    }

    @Says("0 if there is none.")
    static void noMessage(Due due) {
        Store x = new Store();
        for (int from = 0; from < 6; from++) {
            for (int to = 0; to < 6; to++) {
                if (Steps.areLinked(from, to)) {
                    due.is(x.deliver(from, to), 0);
                }
            }
        }
        due.alike("deliveries of nothing", x, new Store());
        // Again when all have been taken, and there is a message the other way.
        x.tick(0);
        due.is(x.deliver(0, 1), 6);
        due.is(x.deliver(0, 1), 0);
        due.is(x.deliver(2, 0), 0);
        due.is(x.link(0, 2, 0), 1);
        x.tick(0);
        due.is(x.deliver(0, 1), 6);
    }

    @Says("NONE: no such link.")
    static void noSuchLink(Due due) {
        Store x = Steps.busy();
        for (int[] wrong : Steps.WRONG_LINKS) {
            due.is(x.deliver(wrong[0], wrong[1]), -1);
        }
        for (int from = 0; from < 6; from++) {
            for (int to = 0; to < 6; to++) {
                if (!Steps.areLinked(from, to)) {
                    due.is(x.deliver(from, to), -1);
                }
            }
        }
        due.alike("a delivery on no link", x, Steps.busy());
    }
}
