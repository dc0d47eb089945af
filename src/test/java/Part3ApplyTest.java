/** Terms, part 3: applying, KNOWN, ticks and what they send; and the constant. */
@Section("PART 3.")
public final class Part3ApplyTest {
    public static void main(String[] args) {
        Due.runSentences(Part3ApplyTest.class);
    }

    /**
     * At server 0 transaction 0 is prepared with 1, and the next ones, of even keys alone, are
     * decided with 2, 3, .. and wait for it.
     */
    private static Store waiting(int howMany) {
        Store x = new Store();
        Steps.begin(x, 0, 100, 0, 1);
        for (int i = 0; i < howMany; i++) {
            Steps.begin(x, 3, i, 0);
        }
        return x;
    }

    /** Transaction 0 gets the time from server 1, and server 0 takes DECIDE of it. */
    private static void decideFirst(Store x, int time) {
        Steps.ticks(x, 1, time - 1);
        Steps.settlePlace(x, 0);
    }

    @Says("TO APPLY: as long as there is a decided transaction")
    static void allThatWaitedAreAppliedAtAStroke(Due due) {
        Store x = waiting(4);
        due.is(x.server(0, 2), 4);
        due.is(x.server(0, 3), 0);
        due.is(x.link(0, 2, 0), 0);
        decideFirst(x, 1);
        due.is(x.server(0, 2), 0);
        due.is(x.server(0, 3), 5);
        due.is(x.link(0, 2, 0), 5);
    }

    @Says("whose time is less than all times of prepared ones:")
    static void decidedOnesOfAPreparedTimeWait(Due due) {
        for (int time = 1; time <= 3; time++) {
            Store x = new Store();
            // 1 stays prepared at server 0 with 2; 0 is decided there with the time.
            Steps.begin(x, 0, 1, 0, 1);
            Steps.begin(x, 3, 2, 2, 3);
            Steps.ticks(x, 1, time - 1);
            x.deliver(0, 1);
            Steps.drain(x, 1, 0);
            due.is(x.transaction(0, 1), time);
            due.is(x.server(0, 1), 1);
            due.is(x.server(0, 2), time < 2 ? 0 : 1);
            due.is(x.server(0, 3), time < 2 ? 1 : 0);
            due.is(x.version(0, 0, 0), time < 2 ? 0 : -1);
            Steps.settlePlace(x, 0);
            due.is(x.server(0, 3), 2);
        }
    }

    @Says("that of the least time")
    static void theLeastTimeIsAppliedFirst(Due due) {
        Store x = waiting(3);
        decideFirst(x, 5);
        due.is(x.transaction(0, 1), 5);
        int[] order = {1, 2, 3, 0};
        for (int n : order) {
            due.is(x.link(0, 2, 2), n);
            due.is(x.deliver(0, 2), 4);
        }
    }

    @Says("(of alike ones the lower number):")
    static void ofAlikeTimesTheLowerNumberIsAppliedFirst(Due due) {
        Store x = waiting(3);
        decideFirst(x, 3);
        due.is(x.transaction(0, 1), 3);
        due.is(x.transaction(2, 1), 3);
        int[] order = {1, 0, 2, 3};
        for (int n : order) {
            due.is(x.link(0, 4, 2), n);
            due.is(x.deliver(0, 4), 4);
        }
    }

    @Says("its versions are the server's;")
    static void appliedVersionsAreTheServers(Due due) {
        Store x = waiting(1);
        due.is(x.version(0, 0, 0), -1);
        decideFirst(x, 1);
        due.is(x.version(0, 0, 0), 1);
        due.is(x.version(0, 0, 1), 0);
        due.is(x.version(1, 1, 0), 0);
    }

    @Says("it is decided there no more;")
    static void appliedOnesAreNotDecided(Due due) {
        Store x = waiting(2);
        due.is(x.server(0, 2), 2);
        decideFirst(x, 1);
        due.is(x.server(0, 2), 0);
        x.tick(0);
        due.is(x.server(0, 10), x.server(0, 0));
    }

    @Says("VERSIONS (number) is sent to the servers of the other places that keep the same keys (by rising places).")
    static void versionsGoToTheOtherPlaces(Due due) {
        for (int place = 0; place < 3; place++) {
            Store x = new Store();
            Steps.begin(x, place, 1, 0);
            due.is(x.link(2 * place, 2 * place + 1, 0), 0);
            Steps.writeAll(x, place, 1, 1);
            for (int s = 0; s < 6; s++) {
                int from = 2 * place + s % 2;
                if (s / 2 != place) {
                    due.is(x.link(from, s, 0), 1);
                    due.is(x.link(from, s, 1), 4);
                    due.is(x.link(from, s, 2), s % 2);
                }
            }
        }
    }

    @Says("VERSIONS is taken: the versions are that server's (its KNOWN stays).")
    static void versionsComeAndKnownStays(Due due) {
        Store x = new Store();
        Steps.writeAll(x, 0, 1, 0, 1, 2);
        due.is(x.deliver(0, 4), 4);
        due.is(x.version(4, 0, 0), 0);
        due.is(x.version(4, 2, 0), 0);
        due.is(x.version(4, 4, 0), -1);
        due.is(x.server(4, 3), 1);
        due.is(x.server(4, 0), 0);
        for (int p = 0; p < 3; p++) {
            due.is(x.server(4, 10 + p), 0);
        }
        due.is(x.link(4, 2, 0), 0);
        due.is(x.link(4, 0, 0), 0);
    }

    @Says("KNOWN of a server's own place is 1 less than the least time that is prepared")
    static void knownStopsBelowTheLeastPreparedTime(Due due) {
        Store x = new Store();
        Steps.ticks(x, 0, 2);
        Steps.begin(x, 0, 1, 0, 1);
        Steps.begin(x, 3, 2, 2, 3);
        due.is(x.tick(0), 5);
        due.is(x.server(0, 10), 2);
        due.is(x.tick(0), 6);
        due.is(x.server(0, 10), 2);
        // Without the first one the least is 4.
        for (int i = 0; i < 3; i++) {
            x.deliver(0, 1);
        }
        x.deliver(1, 0);
        due.is(x.server(0, 1), 1);
        x.tick(0);
        due.is(x.server(0, 10), 3);
    }

    @Says("or decided there;")
    static void decidedOnesThatWaitHoldKnownBack(Due due) {
        Store x = waiting(3);
        due.is(x.server(0, 2), 3);
        x.tick(0);
        due.is(x.server(0, 10), 0);
        Steps.begin(x, 0, 5, 2, 3);
        decideFirst(x, 1);
        x.tick(0);
        due.is(x.server(0, 1), 0);
        due.is(x.server(0, 2), 0);
        due.is(x.server(0, 10), x.server(0, 0));
    }

    @Says("without such its CLOCK;")
    static void knownIsTheClockWhenNothingWaits(Due due) {
        Store x = new Store();
        for (int s = 0; s < 6; s++) {
            for (int i = 1; i <= 3; i++) {
                x.tick(s);
                due.is(x.server(s, 10 + s / 2), i);
            }
        }
        Steps.writeAll(x, 0, 1, 0);
        x.tick(0);
        due.is(x.server(0, 10), 5);
    }

    @Says("it is set so at a TICK alone.")
    static void knownWaitsForATick(Due due) {
        Store x = new Store();
        Steps.writeAll(x, 0, 1, 0, 1);
        due.is(x.server(0, 0), 1);
        due.is(x.server(0, 10), 0);
        due.is(x.server(1, 10), 0);
        x.tick(0);
        due.is(x.server(0, 10), 2);
        Steps.begin(x, 0, 1, 0, 1);
        due.is(x.server(0, 10), 2);
        x.tick(0);
        due.is(x.server(0, 10), 2);
        Steps.settlePlace(x, 0);
        due.is(x.server(0, 10), 2);
        x.tick(0);
        due.is(x.server(0, 10), 5);
    }

    @Says("TICK of a server: its CLOCK rises by 1;")
    static void theClockRisesByOne(Due due) {
        Store x = new Store();
        for (int s = 0; s < 6; s++) {
            x.tick(s);
            due.is(x.server(s, 0), 1);
            x.tick(s);
            due.is(x.server(s, 0), 2);
        }
    }

    @Says("KNOWN of its own place is set;")
    static void knownIsSetAfterTheClockHasRisen(Due due) {
        Store x = new Store();
        for (int s = 0; s < 6; s++) {
            x.tick(s);
            for (int p = 0; p < 3; p++) {
                due.is(x.server(s, 10 + p), p == s / 2 ? 1 : 0);
                due.is(x.server(s, 20 + p), 0);
            }
        }
    }

    @Says("UPTO (that number) is sent to the servers of the other places that keep the same keys (by rising places),")
    static void uptoGoesToTheOtherPlaces(Due due) {
        for (int s = 0; s < 6; s++) {
            Store x = new Store();
            Steps.ticks(x, s, 2);
            for (int to = s % 2; to < 6; to += 2) {
                if (to != s) {
                    due.is(x.link(s, to, 0), 2);
                    due.is(x.link(s, to, 1), 5);
                    due.is(x.link(s, to, 2), 1);
                    x.deliver(s, to);
                    due.is(x.link(s, to, 2), 2);
                }
            }
        }
        // What it tells is KNOWN and not the CLOCK.
        Store x = waiting(0);
        Steps.ticks(x, 0, 3);
        due.is(x.link(0, 2, 2), 0);
    }

    @Says("then GOSSIP (KNOWN) to the other server of the place.")
    static void gossipGoesToTheOtherServer(Due due) {
        for (int s = 0; s < 6; s++) {
            Store x = new Store();
            int other = s % 2 == 0 ? s + 1 : s - 1;
            x.tick(s);
            due.is(x.link(s, other, 0), 1);
            due.is(x.link(s, other, 1), 6);
            due.is(x.link(other, s, 0), 0);
        }
    }

    @Says("UPTO is taken: KNOWN of the sender's place is that.")
    static void uptoSetsKnownOfTheSendersPlace(Due due) {
        for (int from = 0; from < 6; from++) {
            Store x = new Store();
            int to = (from + 2) % 6;
            Steps.ticks(x, from, 3);
            for (int i = 1; i <= 3; i++) {
                due.is(x.deliver(from, to), 5);
                for (int p = 0; p < 3; p++) {
                    due.is(x.server(to, 10 + p), p == from / 2 ? i : 0);
                }
            }
            due.is(x.server(to, 0), 0);
            due.is(x.server(to, 20 + from / 2), 0);
        }
    }

    @Says("GOSSIP is taken: HEARD is that.")
    static void gossipSetsHeardAsKnownWasThen(Due due) {
        Store x = new Store();
        x.tick(2);
        Steps.ticks(x, 4, 2);
        x.deliver(2, 0);
        x.deliver(4, 0);
        x.deliver(4, 0);
        Steps.ticks(x, 0, 3);
        x.deliver(0, 1);
        x.deliver(0, 1);
        // What the sender comes to know later is not in it.
        x.tick(2);
        x.deliver(2, 0);
        due.is(x.deliver(0, 1), 6);
        due.is(x.server(1, 20), 3);
        due.is(x.server(1, 21), 1);
        due.is(x.server(1, 22), 2);
        for (int p = 0; p < 3; p++) {
            due.is(x.server(1, 10 + p), 0);
        }
        due.is(x.server(1, 0), 0);
    }

    @Says("The constants: `NONE = -1`: There is none.")
    static void theConstant(Due due) {
        due.is("NONE", CausalPlaces.NONE, -1);
        due.is(new Store().start(6), CausalPlaces.NONE);
    }
}
