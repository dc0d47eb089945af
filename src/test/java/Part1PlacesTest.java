/** Terms, part 1: places, servers, clients, vectors, transactions, versions, links. */
@Section("PART 1.")
public final class Part1PlacesTest {
    public static void main(String[] args) {
        Due.runSentences(Part1PlacesTest.class);
    }

    @Says("PLACES 0 to 2;")
    static void threePlaces(Due due) {
        Store x = new Store();
        for (int c = 0; c < 3; c++) {
            Steps.begin(x, c, 1, 0);
            due.is(x.transaction(c, 0), c);
        }
    }

    @Says("SERVERS 0 to 5:")
    static void sixServers(Due due) {
        Store x = new Store();
        due.is(x.tick(-1), -1);
        due.is(x.server(-1, 0), -1);
        for (int s = 0; s < 6; s++) {
            due.is(x.tick(s), 1);
            due.is(x.server(s, 0), 1);
        }
        due.is(x.tick(6), -1);
        due.is(x.server(6, 0), -1);
    }

    @Says("server s is of place s / 2,")
    static void placesOfServers(Due due) {
        Store x = new Store();
        for (int s = 0; s < 6; s++) {
            x.tick(s);
            for (int p = 0; p < 3; p++) {
                due.is(x.server(s, 10 + p), p == s / 2 ? 1 : 0);
            }
        }
    }

    @Says("and keeps the KEYS (0 to 7) k with k % 2 = s % 2.")
    static void keysOfServers(Due due) {
        Store x = new Store();
        x.start(1);
        due.is(x.write(1, -1, 5), false);
        for (int k = 0; k < 8; k++) {
            due.is(x.write(1, k, 5), true);
        }
        due.is(x.write(1, 8, 5), false);
        x.commit(1);
        Steps.settlePlace(x, 1);
        for (int k = 0; k < 8; k++) {
            due.is(x.version(2, k, 0), k % 2 == 0 ? 0 : -1);
            due.is(x.version(3, k, 0), k % 2 == 1 ? 0 : -1);
        }
    }

    @Says("CLIENTS 0 to 5:")
    static void sixClients(Due due) {
        Store x = new Store();
        due.is(x.start(-1), -1);
        due.is(x.client(-1, 0), -1);
        for (int c = 0; c < 6; c++) {
            due.is(x.start(c), 1);
            due.is(x.client(c, 0), 1);
        }
        due.is(x.start(6), -1);
        due.is(x.client(6, 0), -1);
    }

    @Says("client c is at place c % 3.")
    static void placesOfClients(Due due) {
        Store x = new Store();
        for (int c = 0; c < 6; c++) {
            due.is(Steps.begin(x, c, 1, 0), c);
            due.is(x.transaction(c, 0), c % 3);
            due.is(x.server(2 * (c % 3), 3), c / 3 + 1);
        }
    }

    @Says("A VECTOR is three numbers, one for each place;")
    static void threeNumbers(Due due) {
        Store x = new Store();
        Steps.ticks(x, 0, 4);
        Steps.ticks(x, 2, 5);
        Steps.ticks(x, 4, 6);
        Steps.drain(x, 2, 0);
        Steps.drain(x, 4, 0);
        due.is(x.server(0, 9), -1);
        due.is(x.server(0, 10), 4);
        due.is(x.server(0, 11), 5);
        due.is(x.server(0, 12), 6);
        due.is(x.server(0, 13), -1);
    }

    @Says("one is UP TO another one if none of its numbers is greater than the other's.")
    static void alikeVectorsAreUpToOneAnother(Due due) {
        for (int writer = 0; writer < 3; writer++) {
            for (int other = 0; other < 3; other++) {
                if (writer != other) {
                    int reader = 3 - writer - other;
                    due.is(Steps.readerWithSeen(writer, other, 3, 2).read(reader, 0), 0);
                    due.is(Steps.readerWithSeen(writer, other, 2, 2).read(reader, 0), -3);
                    due.is(Steps.readerWithSeen(writer, other, 3, 1).read(reader, 0), -3);
                }
            }
        }
    }

    @Says("TRANSACTIONS that write are numbered 0, 1, ..")
    static void numbersRiseByOne(Due due) {
        Store x = new Store();
        for (int n = 0; n < 120; n++) {
            due.is(Steps.begin(x, n % 6, n, 2 * (n % 4)), n);
        }
        due.is(x.transaction(119, 0), 2);
        due.is(x.transaction(120, 0), -1);
    }

    @Says("(at most 200)")
    static void thereIsNo201stNumber(Due due) {
        // Three calls a transaction: only beyond the promised calls are so many numbered.
        Store x = Store.beyondThePromisedCalls();
        for (int n = 0; n < 200; n++) {
            due.is(Steps.begin(x, n % 6, n, 0), n);
        }
        due.is(Steps.begin(x, 0, 1, 0), -3);
        due.is(x.transaction(199, 0), 1);
        due.is(x.transaction(200, 0), -1);
        due.is(x.server(2, 3), 67);
    }

    @Says("as they come to be committed.")
    static void numbersFollowTheCommits(Due due) {
        Store x = new Store();
        for (int c = 0; c < 6; c++) {
            x.start(c);
            if (c != 4) {
                x.write(c, 1, c);
            }
        }
        due.is(x.commit(5), 0);
        due.is(x.commit(2), 1);
        due.is(x.abort(3), true);
        due.is(x.commit(4), -2);
        due.is(x.commit(0), 2);
        due.is(x.commit(1), 3);
        due.is(x.written(0, 1), 5);
        due.is(x.written(1, 1), 2);
        due.is(x.written(2, 1), 0);
        due.is(x.written(3, 1), 1);
    }

    @Says("Each has a PLACE, a TIME, a STAMP: the vector of what it saw, with its time as the number of its place;")
    static void placeTimeAndStamp(Due due) {
        Store x = Steps.readerWithSeen(1, 2, 3, 2);
        due.is(x.transaction(0, 0), 1);
        due.is(x.transaction(0, 1), 3);
        due.is(x.transaction(0, 10), 0);
        due.is(x.transaction(0, 11), 3);
        due.is(x.transaction(0, 12), 2);
    }

    @Says("and the ints that it wrote for keys.")
    static void intsOfKeys(Due due) {
        Store x = new Store();
        x.start(0);
        x.write(0, 3, Integer.MIN_VALUE);
        x.write(0, 4, Integer.MAX_VALUE);
        x.commit(0);
        due.is(x.written(0, 3), Integer.MIN_VALUE);
        due.is(x.written(0, 4), Integer.MAX_VALUE);
        due.is(x.written(0, 5), 0);
    }

    @Says("A VERSION is a key's int by such a transaction.")
    static void aVersionForEachKeyThatIsWritten(Due due) {
        Store x = new Store();
        Steps.writeAll(x, 0, 9, 2, 6);
        due.is(x.version(0, 0, 0), -1);
        due.is(x.version(0, 2, 0), 0);
        due.is(x.version(0, 4, 0), -1);
        due.is(x.version(0, 6, 0), 0);
        due.is(x.version(0, 6, 1), -1);
    }

    @Says("Of versions that is NEWER whose time is greater;")
    static void greaterTimeIsNewer(Due due) {
        Store x = new Store();
        Steps.ticks(x, 0, 1);
        // Time 2 at place 0 with the lower number, time 1 at place 2 with the greater one.
        Steps.begin(x, 0, 1, 0);
        Steps.begin(x, 2, 2, 0);
        Steps.stabilise(x);
        for (int s = 0; s < 6; s += 2) {
            due.is(x.version(s, 0, 0), 0);
            due.is(x.version(s, 0, 1), 1);
            x.start(s / 2);
            due.is(x.read(s / 2, 0), 0);
        }
    }

    @Says("of alike ones that of the greater place;")
    static void ofAlikeTimesTheGreaterPlaceIsNewer(Due due) {
        Store x = new Store();
        Steps.begin(x, 1, 1, 0);
        Steps.begin(x, 2, 1, 0);
        Steps.begin(x, 0, 1, 0);
        Steps.stabilise(x);
        for (int s = 0; s < 6; s += 2) {
            due.is(x.version(s, 0, 0), 1);
            due.is(x.version(s, 0, 1), 0);
            due.is(x.version(s, 0, 2), 2);
            x.start(s / 2);
            due.is(x.read(s / 2, 0), 1);
        }
    }

    @Says("of alike ones the greater number.")
    static void ofAlikeTimesAndPlacesTheGreaterNumberIsNewer(Due due) {
        for (int place = 0; place < 3; place++) {
            Store x = new Store();
            // Prepared with 1 and with 2 at the second server, and with 2 at the first one.
            x.tick(2 * place + 1);
            Steps.begin(x, place, 1, 0, 1);
            Steps.begin(x, place + 3, 2, 0);
            Steps.settlePlace(x, place);
            due.is(x.transaction(0, 1), 2);
            due.is(x.transaction(1, 1), 2);
            due.is(x.version(2 * place, 0, 0), 1);
            due.is(x.version(2 * place, 0, 1), 0);
            Steps.stabilise(x);
            x.start(place);
            due.is(x.read(place, 0), 1);
        }
    }

    @Says("A server has: a CLOCK; versions (those of transactions that it APPLIED); transactions that are PREPARED "
            + "there, each with a time, and DECIDED ones, with theirs; KNOWN, HEARD: vectors.")
    static void aTransactionIsPreparedThenDecidedThenApplied(Due due) {
        Store x = new Store();
        Steps.begin(x, 0, 1, 0, 1);
        Steps.begin(x, 3, 2, 2);
        // 0 is prepared; 1 is decided and waits for it; neither has a version yet.
        due.is(x.server(0, 0), 2);
        due.is(x.server(0, 1), 1);
        due.is(x.server(0, 2), 1);
        due.is(x.server(0, 3), 0);
        due.is(x.version(0, 0, 0), -1);
        due.is(x.version(0, 2, 0), -1);
        Steps.settlePlace(x, 0);
        due.is(x.server(0, 1), 0);
        due.is(x.server(0, 2), 0);
        due.is(x.server(0, 3), 2);
        due.is(x.version(0, 0, 0), 0);
        due.is(x.version(0, 2, 0), 1);
    }

    @Says("All 0, empty at first.")
    static void serversAtFirst(Due due) {
        Store x = new Store();
        for (int s = 0; s < 6; s++) {
            for (int what : new int[] {0, 1, 2, 3, 10, 11, 12, 20, 21, 22, 30, 31, 32}) {
                due.is(x.server(s, what), 0);
            }
            for (int k = 0; k < 8; k++) {
                due.is(x.version(s, k, 0), -1);
            }
        }
    }

    @Says("STABLE is the vector of the lesser of KNOWN and HEARD, number by number.")
    static void stableIsTheLesserOne(Due due) {
        Store x = new Store();
        Steps.ticks(x, 0, 3);
        Steps.ticks(x, 2, 5);
        Steps.ticks(x, 3, 2);
        Steps.ticks(x, 4, 4);
        Steps.ticks(x, 5, 4);
        for (int to = 0; to < 2; to++) {
            Steps.drain(x, 2 + to, to);
            Steps.drain(x, 4 + to, to);
        }
        Steps.ticks(x, 1, 6);
        Steps.drain(x, 1, 0);
        int[] known = {3, 5, 4};
        int[] heard = {6, 2, 4};
        for (int p = 0; p < 3; p++) {
            due.is(x.server(0, 10 + p), known[p]);
            due.is(x.server(0, 20 + p), heard[p]);
            due.is(x.server(0, 30 + p), Math.min(known[p], heard[p]));
        }
    }

    @Says("LINKS: between the two servers of a place,")
    static void linksInsideAPlace(Due due) {
        Store x = new Store();
        for (int s = 0; s < 6; s++) {
            int neighbour = s % 2 == 0 ? s + 1 : s - 1;
            due.is(x.link(s, neighbour, 0), 0);
            due.is(x.deliver(s, neighbour), 0);
            due.is(x.link(s, s, 0), -1);
            due.is(x.deliver(s, s), -1);
        }
    }

    @Says("and between servers of different places with the same keys:")
    static void linksBetweenPlaces(Due due) {
        Store x = new Store();
        for (int from = 0; from < 6; from++) {
            for (int to = 0; to < 6; to++) {
                if (from / 2 != to / 2) {
                    due.is(x.link(from, to, 0), from % 2 == to % 2 ? 0 : -1);
                    due.is(x.deliver(from, to), from % 2 == to % 2 ? 0 : -1);
                }
            }
        }
    }

    @Says("a row of MESSAGES each way, taken one behind the other.")
    static void messagesAreTakenAsTheyCame(Due due) {
        Store x = new Store();
        Steps.ticks(x, 3, 2);
        Steps.writeAll(x, 1, 1, 1);
        x.tick(3);
        Steps.ticks(x, 5, 2);
        due.is(x.link(3, 5, 0), 4);
        due.is(x.link(5, 3, 0), 2);
        int[] kinds = {5, 5, 4, 5, 0, 0};
        int[] numbers = {1, 2, 0, 4, -1, -1};
        for (int i = 0; i < kinds.length; i++) {
            due.is(x.link(3, 5, 0), Math.max(4 - i, 0));
            due.is(x.link(3, 5, 2), numbers[i]);
            due.is(x.deliver(3, 5), kinds[i]);
        }
        due.is(x.link(5, 3, 0), 2);
        due.is(x.link(5, 3, 2), 1);
    }

    @Says("A message to the server itself is done at once.")
    static void theLeaderAsksItselfAtOnce(Due due) {
        for (int place = 0; place < 3; place++) {
            Store x = new Store();
            int first = 2 * place;
            Steps.begin(x, place, 1, 0);
            due.is(x.client(place, 0), 0);
            due.is(x.transaction(0, 1), 1);
            due.is(x.server(first, 1), 0);
            due.is(x.server(first, 3), 1);
            Steps.begin(x, place, 1, 0, 1);
            due.is(x.server(first, 1), 1);
            x.deliver(first, first + 1);
            x.deliver(first + 1, first);
            due.is(x.server(first, 1), 0);
            due.is(x.server(first, 3), 2);
        }
    }
}
