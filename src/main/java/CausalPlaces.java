/**
 * A store in three places, each whole and each of two servers. Clients work at their own place
 * alone, in transactions that read one state and write at once or not at all; what is written
 * goes to the other places when it can, and is seen there only with all that it comes from.
 */
public final class CausalPlaces {
    public static final int NONE = -1;

    private static final int PLACES = 3;
    private static final int SERVERS = 6;
    private static final int CLIENTS = 6;
    private static final int KEYS = 8;
    private static final int SERVERS_OF_PLACE = 2;
    private static final int MAX_TRANSACTIONS = 200;
    // An object lives for 512 calls, and over a whole run no link gets more messages than calls
    // were made: each VERSIONS has a commit of its own, each other message a call of its own.
    private static final int MAX_MESSAGES = 512;

    private static final int IDLE = 0;
    private static final int OPEN = 1;
    private static final int COMMITTING = 2;

    private static final int PREPARE = 1;
    private static final int PREPARED = 2;
    private static final int DECIDE = 3;
    private static final int VERSIONS = 4;
    private static final int UPTO = 5;
    private static final int GOSSIP = 6;

    // How far a transaction is at a server; 0, as a new row has it, is not there at all.
    private static final int STAGE_PREPARED = 1;
    private static final int STAGE_DECIDED = 2;
    private static final int STAGE_KEPT = 3;

    private static final int READ_OWN_WRITE = -2;
    private static final int READ_NOTHING = -3;
    private static final int COMMIT_EMPTY = -2;
    private static final int COMMIT_REFUSED = -3;

    // Stands for "no time": every time that a run can reach is less.
    private static final int NO_TIME = 0x7fffffff;

    private final Client[] clients;
    private final Server[] servers;
    private final Link[] links;
    private final Transaction[] transactions;
    private int transactionCount;

    public CausalPlaces() {
        clients = new Client[CLIENTS];
        for (int c = 0; c < clients.length; c++) {
            clients[c] = new Client(c % PLACES);
        }
        servers = new Server[SERVERS];
        for (int s = 0; s < servers.length; s++) {
            servers[s] = new Server(s);
        }
        links = new Link[SERVERS * SERVERS];
        for (int l = 0; l < links.length; l++) {
            if (areLinked(l / SERVERS, l % SERVERS)) {
                links[l] = new Link();
            }
        }
        transactions = new Transaction[MAX_TRANSACTIONS];
        transactionCount = 0;
    }

    public int start(int client) {
        Client c = clientAt(client);
        if (c == null) {
            return NONE;
        }
        if (c.doing != IDLE) {
            return 0;
        }
        Server first = serverAt(firstServerOf(c.place));
        if (first != null) {
            c.seeStable(first);
        }
        c.forgetSeenVersions();
        c.doing = OPEN;
        return 1;
    }

    public int read(int client, int key) {
        Client c = openClientAt(client);
        if (c == null || !isKey(key)) {
            return NONE;
        }
        if (c.writes.hasKey(key)) {
            c.lastRead = c.writes.intFor(key);
            return READ_OWN_WRITE;
        }
        Transaction t = newestFor(c, key);
        if (t == null) {
            c.lastRead = 0;
            return READ_NOTHING;
        }
        c.lastRead = t.writes.intFor(key);
        return t.number;
    }

    public int value(int client) {
        Client c = clientAt(client);
        return c == null ? 0 : c.lastRead;
    }

    public boolean write(int client, int key, int v) {
        Client c = openClientAt(client);
        if (c == null || !isKey(key)) {
            return false;
        }
        c.writes.put(key, v);
        return true;
    }

    public int commit(int client) {
        Client c = openClientAt(client);
        if (c == null) {
            return NONE;
        }
        if (c.writes.countKeys() == 0) {
            c.doing = IDLE;
            return COMMIT_EMPTY;
        }
        if (transactionCount >= transactions.length) {
            return COMMIT_REFUSED;
        }
        Transaction t = new Transaction(transactionCount, c);
        transactions[transactionCount] = t;
        transactionCount++;
        c.doing = COMMITTING;
        c.writes.clear();
        boolean answerIsDue = sendPrepares(t);
        if (!answerIsDue) {
            decide(t);
        }
        return t.number;
    }

    public boolean abort(int client) {
        Client c = openClientAt(client);
        if (c == null) {
            return false;
        }
        c.writes.clear();
        c.doing = IDLE;
        return true;
    }

    public int tick(int server) {
        Server s = serverAt(server);
        if (s == null) {
            return NONE;
        }
        s.clock++;
        int reached = s.reachedTime();
        s.setKnown(s.place, reached);
        sendToOtherPlaces(s, UPTO, reached);
        send(s.number, s.neighbour(), new Message(GOSSIP, NONE, 0, s.known.clone()));
        return s.clock;
    }

    public int deliver(int from, int to) {
        Link l = linkAt(from, to);
        Server sender = serverAt(from);
        Server receiver = serverAt(to);
        if (l == null || sender == null || receiver == null) {
            return NONE;
        }
        Message m = l.removeFirst();
        if (m == null) {
            return 0;
        }
        takeMessage(m, sender, receiver);
        return m.kind;
    }

    public int client(int c, int what) {
        Client found = clientAt(c);
        if (found == null) {
            return NONE;
        }
        switch (what) {
            case 0:
                return found.doing;
            case 1:
                return found.latest;
            case 2:
                return found.countOwn();
            case 3:
                return found.writes.countKeys();
            default:
                return numberOf(found.seen, what - 10);
        }
    }

    public int server(int s, int what) {
        Server found = serverAt(s);
        if (found == null) {
            return NONE;
        }
        if (isPlace(what - 30)) {
            return found.stableOf(what - 30);
        }
        if (isPlace(what - 20)) {
            return numberOf(found.heard, what - 20);
        }
        switch (what) {
            case 0:
                return found.clock;
            case 1:
                return found.countAtStage(STAGE_PREPARED);
            case 2:
                return found.countAtStage(STAGE_DECIDED);
            case 3:
                return found.keptCount;
            default:
                return numberOf(found.known, what - 10);
        }
    }

    public int transaction(int n, int what) {
        Transaction t = transactionAt(n);
        if (t == null) {
            return NONE;
        }
        if (isPlace(what - 10)) {
            return t.stampOf(what - 10);
        }
        if (isKey(what - 20)) {
            return t.writes.hasKey(what - 20) ? 1 : 0;
        }
        switch (what) {
            case 0:
                return t.place;
            case 1:
                return t.told ? t.time : NONE;
            case 2:
                return t.told ? 1 : 0;
            case 3:
                return t.writes.countKeys();
            default:
                return NONE;
        }
    }

    public int written(int n, int key) {
        Transaction t = transactionAt(n);
        return t == null ? 0 : t.writes.intFor(key);
    }

    public int version(int server, int key, int i) {
        Server s = serverAt(server);
        if (s == null || !s.keepsKey(key)) {
            return NONE;
        }
        Transaction t = s.versionAt(key, i);
        return t == null ? NONE : t.number;
    }

    public int link(int from, int to, int what) {
        Link l = linkAt(from, to);
        if (l == null) {
            return NONE;
        }
        switch (what) {
            case 0:
                return l.count;
            case 1:
                return l.first == null ? 0 : l.first.kind;
            case 2:
                return l.first == null ? NONE : l.first.number;
            default:
                return NONE;
        }
    }

    private Client clientAt(int c) {
        return c >= 0 && c < clients.length ? clients[c] : null;
    }

    private Client openClientAt(int c) {
        Client found = clientAt(c);
        return found != null && found.doing == OPEN ? found : null;
    }

    private Server serverAt(int s) {
        return s >= 0 && s < servers.length ? servers[s] : null;
    }

    private Transaction transactionAt(int n) {
        return n >= 0 && n < transactionCount && n < transactions.length ? transactions[n] : null;
    }

    private Link linkAt(int from, int to) {
        if (from < 0 || from >= SERVERS || to < 0 || to >= SERVERS) {
            return null;
        }
        int l = from * SERVERS + to;
        return l < links.length ? links[l] : null;
    }

    private static boolean isPlace(int p) {
        return p >= 0 && p < PLACES;
    }

    private static boolean isKey(int k) {
        return k >= 0 && k < KEYS;
    }

    private static int firstServerOf(int place) {
        return place * SERVERS_OF_PLACE;
    }

    private static boolean areLinked(int from, int to) {
        boolean samePlace = from / SERVERS_OF_PLACE == to / SERVERS_OF_PLACE;
        boolean sameKeys = from % SERVERS_OF_PLACE == to % SERVERS_OF_PLACE;
        return samePlace != sameKeys;
    }

    private static int numberOf(int[] vector, int place) {
        return place >= 0 && place < vector.length ? vector[place] : NONE;
    }

    private Transaction newestFor(Client c, int key) {
        Transaction own = c.ownFor(key);
        Server s = serverAt(firstServerOf(c.place) + key % SERVERS_OF_PLACE);
        Transaction there = s == null ? null : s.newestUpTo(key, c.seen);
        if (own == null || there == null) {
            return own == null ? there : own;
        }
        return there.isNewerThan(own) ? there : own;
    }

    /**
     * Says whether an answer is still due: the leader's message to itself is done at once, so only
     * the second server is ever waited for.
     */
    private boolean sendPrepares(Transaction t) {
        int leader = firstServerOf(t.place);
        Server first = serverAt(leader);
        if (first != null && t.writes.hasKeyOf(first)) {
            t.noteTime(first.prepareNext(t));
        }
        Server second = serverAt(leader + 1);
        if (second == null || !t.writes.hasKeyOf(second)) {
            return false;
        }
        send(leader, second.number, new Message(PREPARE, t.number, 0, null));
        return true;
    }

    private void decide(Transaction t) {
        t.told = true;
        int leader = firstServerOf(t.place);
        Server first = serverAt(leader);
        if (first != null && t.writes.hasKeyOf(first)) {
            takeDecide(first, t, t.time);
        }
        Server second = serverAt(leader + 1);
        if (second != null && t.writes.hasKeyOf(second)) {
            send(leader, second.number, new Message(DECIDE, t.number, t.time, null));
        }
        t.client.finishCommit(t);
    }

    private void takeDecide(Server s, Transaction t, int time) {
        s.setStage(t.number, STAGE_DECIDED, time);
        s.clock = Math.max(s.clock, time);
        for (int i = 0; i < transactionCount; i++) {
            Transaction next = transactionAt(s.nextToApply());
            if (next == null) {
                return;
            }
            s.keepVersions(next);
            sendToOtherPlaces(s, VERSIONS, next.number);
        }
    }

    private void takeMessage(Message m, Server sender, Server receiver) {
        Transaction t = transactionAt(m.number);
        if (m.kind == UPTO) {
            receiver.setKnown(sender.place, m.number);
        } else if (m.kind == GOSSIP) {
            receiver.hear(m.vector);
        } else if (t == null) {
            return;
        } else if (m.kind == PREPARE) {
            int time = receiver.prepareNext(t);
            send(receiver.number, sender.number, new Message(PREPARED, t.number, time, null));
        } else if (m.kind == PREPARED) {
            t.noteTime(m.time);
            decide(t);
        } else if (m.kind == DECIDE) {
            takeDecide(receiver, t, m.time);
        } else if (m.kind == VERSIONS) {
            receiver.keepVersions(t);
        }
    }

    private void sendToOtherPlaces(Server s, int kind, int number) {
        for (int p = 0; p < PLACES; p++) {
            if (p != s.place) {
                int to = firstServerOf(p) + s.number % SERVERS_OF_PLACE;
                send(s.number, to, new Message(kind, number, 0, null));
            }
        }
    }

    private void send(int from, int to, Message m) {
        Link l = linkAt(from, to);
        if (l != null) {
            l.append(m);
        }
    }

    /** The ints that a transaction writes, by key. */
    private static final class Writes {
        final boolean[] has = new boolean[KEYS];
        final int[] ints = new int[KEYS];

        void clear() {
            for (int k = 0; k < KEYS; k++) {
                has[k] = false;
                ints[k] = 0;
            }
        }

        void put(int key, int v) {
            if (isKey(key)) {
                has[key] = true;
                ints[key] = v;
            }
        }

        void putAll(Writes other) {
            for (int k = 0; k < KEYS; k++) {
                has[k] = other.has[k];
                ints[k] = other.ints[k];
            }
        }

        boolean hasKey(int key) {
            return isKey(key) && has[key];
        }

        int intFor(int key) {
            return hasKey(key) ? ints[key] : 0;
        }

        int countKeys() {
            int count = 0;
            for (int k = 0; k < KEYS; k++) {
                if (has[k]) {
                    count++;
                }
            }
            return count;
        }

        boolean hasKeyOf(Server s) {
            for (int k = 0; k < KEYS; k++) {
                if (has[k] && s.keepsKey(k)) {
                    return true;
                }
            }
            return false;
        }
    }

    /** A transaction that writes, from the moment that it has a number. */
    private static final class Transaction {
        final int number;
        final int place;
        final Client client;
        final int latest;
        final int[] seen;
        final Writes writes;
        // While it is not told, the greatest time that it was prepared with so far.
        int time;
        boolean told;

        Transaction(int number, Client client) {
            this.number = number;
            this.client = client;
            place = client.place;
            latest = client.latest;
            seen = client.seen.clone();
            writes = new Writes();
            writes.putAll(client.writes);
        }

        void noteTime(int preparedTime) {
            time = Math.max(time, preparedTime);
        }

        int stampOf(int p) {
            return told && p == place ? time : numberOf(seen, p);
        }

        boolean isUpTo(int[] vector) {
            for (int p = 0; p < PLACES; p++) {
                if (stampOf(p) > numberOf(vector, p)) {
                    return false;
                }
            }
            return true;
        }

        boolean isNewerThan(Transaction other) {
            if (time != other.time) {
                return time > other.time;
            }
            if (place != other.place) {
                return place > other.place;
            }
            return number > other.number;
        }
    }

    private static final class Client {
        final int place;
        final int[] seen = new int[PLACES];
        final Transaction[] own = new Transaction[KEYS];
        final Writes writes = new Writes();
        int doing;
        int latest;
        int lastRead;

        Client(int place) {
            this.place = place;
        }

        void seeStable(Server s) {
            for (int p = 0; p < PLACES; p++) {
                seen[p] = Math.max(seen[p], s.stableOf(p));
            }
        }

        void forgetSeenVersions() {
            for (int k = 0; k < KEYS; k++) {
                Transaction t = own[k];
                if (t != null && t.isUpTo(seen)) {
                    own[k] = null;
                }
            }
        }

        void finishCommit(Transaction t) {
            doing = IDLE;
            latest = t.time;
            for (int k = 0; k < KEYS; k++) {
                if (t.writes.hasKey(k)) {
                    own[k] = t;
                }
            }
        }

        Transaction ownFor(int key) {
            return isKey(key) ? own[key] : null;
        }

        int countOwn() {
            int count = 0;
            for (int k = 0; k < KEYS; k++) {
                if (own[k] != null) {
                    count++;
                }
            }
            return count;
        }
    }

    private static final class Server {
        final int number;
        final int place;
        final int[] known = new int[PLACES];
        final int[] heard = new int[PLACES];
        // By transaction: how far it is here, and its time while it is prepared or decided.
        final int[] stages = new int[MAX_TRANSACTIONS];
        final int[] times = new int[MAX_TRANSACTIONS];
        // Kept newest first, so that reads and the order of versions need one walk.
        final Transaction[] kept = new Transaction[MAX_TRANSACTIONS];
        int keptCount;
        int clock;

        Server(int number) {
            this.number = number;
            place = number / SERVERS_OF_PLACE;
        }

        boolean keepsKey(int key) {
            return isKey(key) && key % SERVERS_OF_PLACE == number % SERVERS_OF_PLACE;
        }

        int neighbour() {
            return number % SERVERS_OF_PLACE == 0 ? number + 1 : number - 1;
        }

        int stableOf(int p) {
            return Math.min(numberOf(known, p), numberOf(heard, p));
        }

        void setKnown(int p, int upTo) {
            if (isPlace(p)) {
                known[p] = upTo;
            }
        }

        void hear(int[] vector) {
            if (vector == null) {
                return;
            }
            for (int p = 0; p < PLACES; p++) {
                heard[p] = numberOf(vector, p);
            }
        }

        int prepareNext(Transaction t) {
            int greatest = Math.max(clock, t.latest);
            for (int p = 0; p < PLACES; p++) {
                greatest = Math.max(greatest, numberOf(t.seen, p));
            }
            clock = greatest + 1;
            setStage(t.number, STAGE_PREPARED, clock);
            return clock;
        }

        void setStage(int n, int stage, int time) {
            if (n >= 0 && n < MAX_TRANSACTIONS) {
                stages[n] = stage;
                times[n] = time;
            }
        }

        int countAtStage(int stage) {
            int count = 0;
            for (int n = 0; n < MAX_TRANSACTIONS; n++) {
                if (stages[n] == stage) {
                    count++;
                }
            }
            return count;
        }

        int leastTimeAtStage(int stage) {
            int least = NO_TIME;
            for (int n = 0; n < MAX_TRANSACTIONS; n++) {
                if (stages[n] == stage) {
                    least = Math.min(least, times[n]);
                }
            }
            return least;
        }

        /** What KNOWN of the server's own place becomes at a tick. */
        int reachedTime() {
            int least = Math.min(leastTimeAtStage(STAGE_PREPARED), leastTimeAtStage(STAGE_DECIDED));
            return least == NO_TIME ? clock : least - 1;
        }

        /** The number of the decided transaction whose turn it is, or NONE. */
        int nextToApply() {
            int next = NONE;
            int least = leastTimeAtStage(STAGE_PREPARED);
            for (int n = 0; n < MAX_TRANSACTIONS; n++) {
                if (stages[n] == STAGE_DECIDED && times[n] < least) {
                    next = n;
                    least = times[n];
                }
            }
            return next;
        }

        void keepVersions(Transaction t) {
            setStage(t.number, STAGE_KEPT, t.time);
            if (keptCount < 0 || keptCount >= MAX_TRANSACTIONS) {
                return;
            }
            int i = keptCount;
            for (; i > 0 && kept[i - 1] != null && t.isNewerThan(kept[i - 1]); i--) {
                kept[i] = kept[i - 1];
            }
            kept[i] = t;
            keptCount++;
        }

        Transaction newestUpTo(int key, int[] vector) {
            for (int i = 0; i < keptCount && i < MAX_TRANSACTIONS; i++) {
                Transaction t = kept[i];
                if (t != null && t.writes.hasKey(key) && t.isUpTo(vector)) {
                    return t;
                }
            }
            return null;
        }

        Transaction versionAt(int key, int index) {
            int newer = 0;
            for (int i = 0; i < keptCount && i < MAX_TRANSACTIONS; i++) {
                Transaction t = kept[i];
                if (t != null && t.writes.hasKey(key)) {
                    if (newer == index) {
                        return t;
                    }
                    newer++;
                }
            }
            return null;
        }
    }

    private static final class Message {
        final int kind;
        // A transaction's number, or what UPTO tells.
        final int number;
        final int time;
        final int[] vector;
        Message next;

        Message(int kind, int number, int time, int[] vector) {
            this.kind = kind;
            this.number = number;
            this.time = time;
            this.vector = vector;
        }
    }

    /** The messages from one server to another one, first come first taken. */
    private static final class Link {
        Message first;
        Message last;
        int count;

        void append(Message m) {
            if (count >= MAX_MESSAGES) {
                return;
            }
            if (last == null) {
                first = m;
            } else {
                last.next = m;
            }
            last = m;
            count++;
        }

        Message removeFirst() {
            Message m = first;
            if (m == null) {
                return null;
            }
            first = m.next;
            if (first == null) {
                last = null;
            }
            count--;
            return m;
        }
    }
}
