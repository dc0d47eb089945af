/** Terms, part 2: clients, and how they start, read, write and commit. */
@Section("PART 2.")
public final class Part2ClientsTest {
    public static void main(String[] args) {
        Due.runSentences(Part2ClientsTest.class);
    }

    @Says("A CLIENT has SEEN (a vector, 0 at first), its LATEST time (0),")
    static void clientsAtFirst(Due due) {
        Store x = new Store();
        for (int c = 0; c < 6; c++) {
            for (int what : new int[] {0, 1, 2, 3, 10, 11, 12}) {
                due.is(x.client(c, what), 0);
            }
        }
    }

    @Says("its OWN versions (by key),")
    static void oneOwnVersionForAKey(Due due) {
        Store x = new Store();
        Steps.writeAll(x, 0, 1, 0, 2, 4);
        due.is(x.client(0, 2), 3);
        Steps.writeAll(x, 0, 2, 2);
        due.is(x.client(0, 2), 3);
        due.is(x.client(3, 2), 0);
        Steps.writeAll(x, 0, 3, 1, 3, 5, 6, 7);
        due.is(x.client(0, 2), 8);
    }

    @Says("perhaps an open transaction, with what it writes,")
    static void whatAnOpenTransactionWritesIsItsClientsAlone(Due due) {
        Store x = new Store();
        x.start(0);
        x.start(3);
        x.write(0, 0, 5);
        due.is(x.client(0, 0), 1);
        due.is(x.client(0, 3), 1);
        due.is(x.client(3, 0), 1);
        due.is(x.client(3, 3), 0);
        due.is(x.read(3, 0), -3);
        due.is(x.read(0, 0), -2);
    }

    @Says("perhaps one that is being COMMITTED.")
    static void itIsBeingCommittedUntilAllHaveAnswered(Due due) {
        Store x = new Store();
        Steps.begin(x, 2, 5, 1);
        due.is(x.client(2, 0), 2);
        x.deliver(4, 5);
        due.is(x.client(2, 0), 2);
        due.is(x.client(5, 0), 0);
        x.deliver(5, 4);
        due.is(x.client(2, 0), 0);
    }

    @Says("START: SEEN is for each number the greater one of it and that of STABLE")
    static void seenRisesWithStableAtAStartAlone(Due due) {
        Store x = new Store();
        int[] last = new int[3];
        for (int round = 0; round < 3; round++) {
            Steps.tellPlace(x, 0, 1, 1);
            Steps.tellPlace(x, 2, 1, 2);
            // The first server knows more than it has heard.
            Steps.ticks(x, 2, 5);
            x.tick(0);
            Steps.drain(x, 0, 2);
            for (int p = 0; p < 3; p++) {
                due.is(x.client(1, 10 + p), last[p]);
            }
            due.is(x.start(1), 1);
            for (int p = 0; p < 3; p++) {
                int stable = x.server(2, 30 + p);
                due.is("STABLE has risen", stable > last[p], true);
                due.is(x.client(1, 10 + p), stable);
                last[p] = stable;
            }
            x.tick(2);
            Steps.gossip(x, 1);
            due.is(x.client(1, 11), last[1]);
            x.abort(1);
        }
    }

    @Says("of its place's first server (2 * place).")
    static void seenIsTakenFromTheFirstServer(Due due) {
        for (int place = 0; place < 3; place++) {
            Store x = new Store();
            Steps.ticks(x, 2 * place, 3);
            Steps.ticks(x, 2 * place + 1, 2);
            // The second server has heard all, the first one only of the first tick.
            Steps.drain(x, 2 * place, 2 * place + 1);
            x.deliver(2 * place + 1, 2 * place);
            due.is(x.server(2 * place, 30 + place), 1);
            due.is(x.server(2 * place + 1, 30 + place), 2);
            for (int c = 0; c < 6; c++) {
                x.start(c);
                due.is(x.client(c, 10 + place), c % 3 == place ? 1 : 0);
            }
        }
    }

    @Says("Own versions whose stamp is up to SEEN are forgotten.")
    static void ownVersionsAreForgottenWhenSeenJustReachesThem(Due due) {
        Store x = new Store();
        Steps.begin(x, 0, 1, 0);
        Steps.begin(x, 0, 2, 2);
        due.is(x.client(0, 2), 2);
        // One that is prepared with 3 keeps KNOWN of the first server at 2.
        Steps.begin(x, 3, 3, 0, 1);
        x.tick(0);
        due.is(x.server(0, 10), 2);
        Steps.gossip(x, 0);
        due.is(x.client(0, 2), 2);
        x.start(0);
        due.is(x.client(0, 10), 1);
        due.is(x.client(0, 2), 1);
        due.is(x.read(0, 0), 0);
        due.is(x.read(0, 2), 1);
        x.abort(0);
        Steps.gossip(x, 0);
        Steps.gossip(x, 0);
        due.is(x.client(0, 2), 1);
        x.start(0);
        due.is(x.client(0, 10), 2);
        due.is(x.client(0, 2), 0);
        due.is(x.read(0, 2), 1);
    }

    @Says("READ of a key: what it writes in this transaction;")
    static void whatTheTransactionWritesIsReadFirst(Due due) {
        Store x = new Store();
        Steps.writeAll(x, 0, 1, 0);
        x.start(0);
        due.is(x.read(0, 0), 0);
        x.write(0, 0, 0);
        due.is(x.read(0, 0), -2);
        due.is(x.value(0), 0);
        due.is(x.read(0, 2), -3);
        x.abort(0);
        x.start(0);
        due.is(x.read(0, 0), 0);
        due.is(x.value(0), 1);
    }

    @Says("else the newest one of its own version and of the versions,")
    static void theNewestOfItsOwnAndTheOthers(Due due) {
        Store x = new Store();
        Steps.writeAll(x, 0, 10, 0);
        Steps.writeAll(x, 1, 11, 0);
        x.start(0);
        due.is(x.read(0, 0), 0);
        x.abort(0);
        // Its own one is not stable here, but that of place 1, with the same time, is: it is newer.
        Steps.tellPlace(x, 1, 0, 1);
        x.start(0);
        due.is(x.client(0, 2), 1);
        due.is(x.read(0, 0), 1);
        due.is(x.value(0), 11);
        x.abort(0);
        Steps.writeAll(x, 0, 12, 0);
        x.start(0);
        due.is(x.read(0, 0), 2);
        due.is(x.value(0), 12);
    }

    @Says("at the server of its place that keeps the key,")
    static void readsAtTheServerOfThePlaceThatKeepsTheKey(Due due) {
        Store x = new Store();
        Steps.writeAll(x, 0, 10, 0, 2);
        Steps.writeAll(x, 0, 11, 1, 3);
        Steps.ticks(x, 0, 3);
        Steps.ticks(x, 1, 2);
        Steps.gossip(x, 0);
        for (int k = 0; k < 4; k++) {
            x.start(3);
            due.is(x.read(3, k), k % 2);
            x.abort(3);
            x.start(4);
            due.is(x.read(4, k), -3);
            x.abort(4);
        }
    }

    @Says("whose stamp is up to SEEN;")
    static void versionsBeyondSeenAreNotRead(Due due) {
        for (int seenOfWriter = 2; seenOfWriter <= 3; seenOfWriter++) {
            for (int seenOfOther = 0; seenOfOther <= 2; seenOfOther++) {
                Store x = Steps.readerWithSeen(0, 1, seenOfWriter, seenOfOther);
                due.is(x.version(4, 0, 0), 0);
                due.is(x.client(2, 10), seenOfWriter);
                due.is(x.client(2, 11), seenOfOther);
                due.is(x.read(2, 0), seenOfWriter == 3 && seenOfOther == 2 ? 0 : -3);
            }
        }
    }

    @Says("else nothing (0).")
    static void nothingIsReadAsZero(Due due) {
        Store x = new Store();
        x.start(0);
        x.write(0, 0, 77);
        x.read(0, 0);
        due.is(x.value(0), 77);
        due.is(x.read(0, 1), -3);
        due.is(x.value(0), 0);
    }

    @Says("WRITE: an int for a key (the latest one counts).")
    static void theLatestWriteOfAKeyCounts(Due due) {
        Store x = new Store();
        x.start(0);
        x.write(0, 6, 1);
        x.write(0, 4, 5);
        x.write(0, 6, 2);
        x.read(0, 6);
        due.is(x.value(0), 2);
        x.write(0, 6, 0);
        x.read(0, 6);
        due.is(x.value(0), 0);
        due.is(x.client(0, 3), 2);
        x.commit(0);
        due.is(x.written(0, 6), 0);
        due.is(x.written(0, 4), 5);
    }

    @Says("COMMIT: without writes it is over at once.")
    static void anEmptyTransactionIsOverAtOnce(Due due) {
        Store x = new Store();
        x.start(0);
        x.read(0, 1);
        x.commit(0);
        due.alike("an empty commit", x, new Store());
    }

    @Says("Else it gets a number, and the first server of the place LEADS:")
    static void theFirstServerLeads(Due due) {
        for (int c = 0; c < 6; c++) {
            Store x = new Store();
            int first = 2 * (c % 3);
            due.is(Steps.begin(x, c, 1, 7), 0);
            for (int from = 0; from < 6; from++) {
                for (int to = 0; to < 6; to++) {
                    if (Steps.areLinked(from, to)) {
                        due.is(x.link(from, to, 0), from == first && to == first + 1 ? 1 : 0);
                    }
                }
            }
            due.is(x.link(first, first + 1, 1), 1);
            due.is(x.link(first, first + 1, 2), 0);
        }
    }

    @Says("it sends PREPARE (number, SEEN, LATEST, ints) to each of the place's servers that keeps a key of it")
    static void onlyServersThatKeepAKeyPrepareIt(Due due) {
        int[][] keys = {{0}, {6}, {1}, {7}, {0, 1}, {6, 7}};
        for (int[] some : keys) {
            Store x = new Store();
            boolean even = some[0] % 2 == 0;
            boolean odd = some[some.length - 1] % 2 == 1;
            Steps.begin(x, 2, 1, some);
            due.is(x.server(4, 0), even ? 1 : 0);
            due.is(x.server(4, 1), even && odd ? 1 : 0);
            due.is(x.link(4, 5, 0), odd ? 1 : 0);
            due.is(x.link(4, 5, 1), odd ? 1 : 0);
            due.is(x.link(4, 5, 2), odd ? 0 : -1);
            due.is(x.server(5, 0), 0);
            due.is(x.deliver(4, 5), odd ? 1 : 0);
            due.is(x.server(5, 1), odd ? 1 : 0);
        }
    }

    @Says("(the first one first).")
    static void theFirstServerHasPreparedWhenTheSecondOneIsAsked(Due due) {
        Store x = new Store();
        Steps.begin(x, 1, 1, 0, 1);
        due.is(x.link(2, 3, 1), 1);
        due.is(x.server(2, 1), 1);
        due.is(x.server(3, 1), 0);
        due.is(x.client(1, 0), 2);
    }

    @Says("PREPARE is taken: the time is 1 more than the greatest of that server's CLOCK,")
    static void timeIsAboveTheClock(Due due) {
        Store x = new Store();
        Steps.ticks(x, 0, 7);
        Steps.ticks(x, 1, 4);
        Steps.begin(x, 0, 1, 0);
        due.is(x.transaction(0, 1), 8);
        Steps.writeAll(x, 3, 1, 1);
        due.is(x.transaction(1, 1), 5);
    }

    @Says("the numbers of SEEN,")
    static void timeIsAboveEachNumberOfSeen(Due due) {
        for (int place = 0; place < 3; place++) {
            for (int other = 0; other < 3; other++) {
                if (place != other) {
                    Store x = new Store();
                    Steps.tellPlace(x, other, place, 9);
                    Steps.begin(x, place, 1, 0);
                    due.is(x.client(place, 10 + other), 9);
                    due.is(x.transaction(0, 1), 10);
                    Steps.writeAll(x, place + 3, 1, 1);
                    due.is(x.transaction(1, 1), 10);
                }
            }
        }
    }

    @Says("and LATEST;")
    static void timeIsAboveLatest(Due due) {
        Store x = new Store();
        Steps.ticks(x, 0, 5);
        Steps.begin(x, 0, 1, 0);
        due.is(x.client(0, 1), 6);
        // The second server's clock is 0, and SEEN too.
        Steps.writeAll(x, 0, 2, 1);
        due.is(x.transaction(1, 1), 7);
        due.is(x.server(1, 0), 7);
        due.is(x.client(3, 1), 0);
    }

    @Says("it is the server's CLOCK then;")
    static void theClockIsThatTime(Due due) {
        Store x = new Store();
        Steps.ticks(x, 2, 5);
        Steps.begin(x, 1, 1, 0, 1);
        due.is(x.server(2, 0), 6);
        due.is(x.server(3, 0), 0);
        Steps.drain(x, 2, 3);
        due.is(x.server(3, 0), 1);
    }

    @Says("it is prepared there with this time;")
    static void itIsPreparedWithItsTimeThere(Due due) {
        Store x = new Store();
        Steps.ticks(x, 2, 5);
        Steps.begin(x, 1, 1, 0, 1);
        Steps.drain(x, 2, 3);
        due.is(x.server(2, 1), 1);
        due.is(x.server(3, 1), 1);
        x.tick(2);
        x.tick(3);
        due.is(x.server(2, 11), 5);
        due.is(x.server(3, 11), 0);
    }

    @Says("PREPARED (number, time) is sent back.")
    static void preparedIsSentBack(Due due) {
        Store x = new Store();
        Steps.begin(x, 0, 1, 0);
        Steps.begin(x, 0, 1, 1);
        due.is(x.link(1, 0, 0), 0);
        x.deliver(0, 1);
        due.is(x.link(1, 0, 0), 1);
        due.is(x.link(1, 0, 1), 2);
        due.is(x.link(1, 0, 2), 1);
        due.is(x.link(0, 1, 0), 0);
    }

    @Says("When all have come: the transaction's time is the greatest of them;")
    static void theGreatestTimeIsTheTransactions(Due due) {
        for (int ahead = 2; ahead < 4; ahead++) {
            Store x = new Store();
            Steps.ticks(x, ahead, 4);
            Steps.drain(x, 2, 3);
            Steps.drain(x, 3, 2);
            Steps.begin(x, 1, 3, 0, 1);
            due.is(x.transaction(0, 2), 0);
            x.deliver(2, 3);
            due.is(x.transaction(0, 2), 0);
            x.deliver(3, 2);
            due.is(x.transaction(0, 2), 1);
            due.is(x.transaction(0, 1), 5);
        }
    }

    @Says("DECIDE (number, time) is sent to the same servers;")
    static void decideGoesWherePrepareWent(Due due) {
        int[][] keys = {{2}, {3}, {2, 3}};
        for (int[] some : keys) {
            Store x = new Store();
            boolean even = some[0] == 2;
            boolean odd = some[some.length - 1] == 3;
            Steps.begin(x, 0, 1, some);
            x.deliver(0, 1);
            x.deliver(1, 0);
            due.is(x.link(0, 1, 0), odd ? 1 : 0);
            due.is(x.link(0, 1, 1), odd ? 3 : 0);
            due.is(x.link(0, 1, 2), odd ? 0 : -1);
            due.is(x.server(0, 3), even ? 1 : 0);
            due.is(x.server(1, 3), 0);
            due.is(x.deliver(0, 1), odd ? 3 : 0);
            due.is(x.server(1, 3), odd ? 1 : 0);
        }
    }

    @Says("it is over for the client: LATEST is that time;")
    static void latestIsTheTransactionsTime(Due due) {
        Store x = new Store();
        Steps.ticks(x, 1, 4);
        Steps.drain(x, 1, 0);
        Steps.begin(x, 0, 1, 0, 1);
        x.deliver(0, 1);
        due.is(x.client(0, 0), 2);
        due.is(x.client(0, 1), 0);
        x.deliver(1, 0);
        due.is(x.client(0, 0), 0);
        due.is(x.client(0, 1), 5);
        due.is(x.client(3, 1), 0);
    }

    @Says("its ints are own versions of it (in place of others for these keys).")
    static void itsIntsAreOwnVersions(Due due) {
        Store x = new Store();
        Steps.begin(x, 0, 1, 0, 1, 2);
        x.deliver(0, 1);
        due.is(x.client(0, 2), 0);
        x.deliver(1, 0);
        due.is(x.client(0, 2), 3);
        // The second server has no version yet, but the client has it.
        x.start(0);
        due.is(x.version(1, 1, 0), -1);
        due.is(x.read(0, 1), 0);
        due.is(x.value(0), 1);
        x.abort(0);
        Steps.writeAll(x, 0, 2, 2, 3);
        due.is(x.client(0, 2), 4);
        x.start(0);
        int[] writers = {0, 0, 1, 1};
        for (int k = 0; k < 4; k++) {
            due.is(x.read(0, k), writers[k]);
            due.is(x.value(0), writers[k] + 1);
        }
    }

    @Says("DECIDE is taken: it is prepared there no more, but decided, with that time;")
    static void decidedWithTheTransactionsTime(Due due) {
        for (int time = 1; time <= 2; time++) {
            Store x = new Store();
            // 0 and 1 are prepared at server 0 with 1 and 2; server 1 tells the time for 0.
            Steps.ticks(x, 1, time - 1);
            Steps.drain(x, 1, 0);
            Steps.begin(x, 0, 1, 0, 1);
            Steps.begin(x, 3, 2, 2, 3);
            x.deliver(0, 1);
            due.is(x.server(0, 1), 2);
            due.is(x.server(0, 2), 0);
            x.deliver(1, 0);
            due.is(x.transaction(0, 1), time);
            // With 1 it is applied; with 2 it waits for the other one.
            due.is(x.server(0, 1), 1);
            due.is(x.server(0, 2), time - 1);
            due.is(x.server(0, 3), 2 - time);
        }
    }

    @Says("the CLOCK is at least that time;")
    static void theClockRisesToTheTimeButNeverFalls(Due due) {
        Store x = new Store();
        Steps.ticks(x, 0, 5);
        Steps.drain(x, 0, 1);
        Steps.begin(x, 0, 1, 0, 1);
        x.deliver(0, 1);
        due.is(x.server(1, 0), 1);
        x.deliver(1, 0);
        due.is(x.server(0, 0), 6);
        x.deliver(0, 1);
        due.is(x.server(1, 0), 6);
        Steps.begin(x, 0, 1, 1);
        x.deliver(0, 1);
        x.deliver(1, 0);
        Steps.ticks(x, 1, 10);
        due.is(x.transaction(1, 1), 7);
        due.is(x.deliver(0, 1), 3);
        due.is(x.server(1, 0), 17);
    }

    @Says("then the server APPLIES.")
    static void decidedOnesAreAppliedWhenDecideIsTaken(Due due) {
        Store x = new Store();
        Steps.begin(x, 0, 1, 1);
        x.deliver(0, 1);
        x.deliver(1, 0);
        due.is(x.version(1, 1, 0), -1);
        due.is(x.deliver(0, 1), 3);
        due.is(x.version(1, 1, 0), 0);
        due.is(x.server(1, 2), 0);
        due.is(x.server(1, 3), 1);
    }
}
