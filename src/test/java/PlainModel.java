import java.util.ArrayList;
import java.util.Comparator;
import java.util.HashMap;
import java.util.List;
import java.util.Map;
import java.util.TreeMap;

/** The document told a second time, in its own words and order, for tests to compare with. */
final class PlainModel {
    private record Version(int number, int time, int place, int[] stamp, int v) {
    }

    private record Message(int kind, int number, int time, int[] vector, int latest) {
    }

    private static final Comparator<Version> OLDER_FIRST =
            Comparator.comparingInt(Version::time).thenComparingInt(Version::place).thenComparingInt(Version::number);

    private static final class Tx {
        int number;
        int client;
        int place;
        int time;
        boolean told;
        int[] seen;
        final Map<Integer, Integer> ints = new TreeMap<>();
        final List<Integer> answers = new ArrayList<>();

        int[] stamp() {
            int[] stamp = seen.clone();
            if (told) {
                stamp[place] = time;
            }
            return stamp;
        }

        List<Integer> servers() {
            List<Integer> all = new ArrayList<>();
            for (int s = 2 * place; s <= 2 * place + 1; s++) {
                int side = s % 2;
                if (ints.keySet().stream().anyMatch(k -> k % 2 == side)) {
                    all.add(s);
                }
            }
            return all;
        }
    }

    private static final class Site {
        int clock;
        final Map<Integer, Integer> prepared = new HashMap<>();
        final Map<Integer, Integer> decided = new HashMap<>();
        final List<Integer> got = new ArrayList<>();
        final Map<Integer, List<Version>> versions = new HashMap<>();
        int[] known = new int[3];
        int[] heard = new int[3];
    }

    private static final class User {
        int[] seen = new int[3];
        int latest;
        int lastRead;
        final Map<Integer, Version> own = new HashMap<>();
        Map<Integer, Integer> open;
        boolean committing;
    }

    private final List<Tx> txs = new ArrayList<>();
    private final Site[] sites = new Site[6];
    private final User[] users = new User[6];
    private final Map<Integer, List<Message>> rows = new HashMap<>();

    PlainModel() {
        for (int i = 0; i < 6; i++) {
            sites[i] = new Site();
            users[i] = new User();
            for (int j = 0; j < 6; j++) {
                if (i != j && (i / 2 == j / 2 || i % 2 == j % 2)) {
                    rows.put(10 * i + j, new ArrayList<>());
                }
            }
        }
    }

    private static boolean upTo(int[] a, int[] b) {
        return a[0] <= b[0] && a[1] <= b[1] && a[2] <= b[2];
    }

    private static boolean in(int i, int end) {
        return 0 <= i && i < end;
    }

    private List<Message> row(int from, int to) {
        return in(from, 6) && in(to, 6) ? rows.get(10 * from + to) : null;
    }

    private void send(int from, int to, Message m) {
        if (from == to) {
            take(from, to, m);
        } else {
            row(from, to).add(m);
        }
    }

    private int[] stable(int s) {
        int[] least = new int[3];
        for (int p = 0; p < 3; p++) {
            least[p] = Math.min(sites[s].known[p], sites[s].heard[p]);
        }
        return least;
    }

    int start(int c) {
        if (!in(c, 6)) {
            return -1;
        }
        User u = users[c];
        if (u.open != null || u.committing) {
            return 0;
        }
        int[] stable = stable(2 * (c % 3));
        for (int p = 0; p < 3; p++) {
            u.seen[p] = Math.max(u.seen[p], stable[p]);
        }
        u.own.values().removeIf(v -> upTo(v.stamp(), u.seen));
        u.open = new HashMap<>();
        return 1;
    }

    int read(int c, int key) {
        if (!in(c, 6) || !in(key, 8) || users[c].open == null) {
            return -1;
        }
        User u = users[c];
        if (u.open.containsKey(key)) {
            u.lastRead = u.open.get(key);
            return -2;
        }
        List<Version> all = new ArrayList<>();
        if (u.own.containsKey(key)) {
            all.add(u.own.get(key));
        }
        for (Version v : sites[2 * (c % 3) + key % 2].versions.getOrDefault(key, List.of())) {
            if (upTo(v.stamp(), u.seen)) {
                all.add(v);
            }
        }
        Version newest = all.stream().max(OLDER_FIRST).orElse(null);
        u.lastRead = newest == null ? 0 : newest.v();
        return newest == null ? -3 : newest.number();
    }

    int value(int c) {
        return in(c, 6) ? users[c].lastRead : 0;
    }

    boolean write(int c, int key, int v) {
        if (!in(c, 6) || !in(key, 8) || users[c].open == null) {
            return false;
        }
        users[c].open.put(key, v);
        return true;
    }

    int commit(int c) {
        if (!in(c, 6) || users[c].open == null) {
            return -1;
        }
        User u = users[c];
        if (u.open.isEmpty()) {
            u.open = null;
            return -2;
        }
        if (txs.size() == 200) {
            return -3;
        }
        Tx t = new Tx();
        t.number = txs.size();
        t.client = c;
        t.place = c % 3;
        t.seen = u.seen.clone();
        t.ints.putAll(u.open);
        txs.add(t);
        u.open = null;
        u.committing = true;
        for (int s : t.servers()) {
            send(2 * t.place, s, new Message(1, t.number, 0, u.seen.clone(), u.latest));
        }
        return t.number;
    }

    boolean abort(int c) {
        if (!in(c, 6) || users[c].open == null) {
            return false;
        }
        users[c].open = null;
        return true;
    }

    int tick(int s) {
        if (!in(s, 6)) {
            return -1;
        }
        Site site = sites[s];
        site.clock++;
        List<Integer> waiting = new ArrayList<>(site.prepared.values());
        waiting.addAll(site.decided.values());
        int reached = waiting.stream().min(Comparator.naturalOrder()).map(t -> t - 1).orElse(site.clock);
        site.known[s / 2] = reached;
        toOtherPlaces(s, new Message(5, reached, 0, null, 0));
        send(s, s ^ 1, new Message(6, -1, 0, site.known.clone(), 0));
        return site.clock;
    }

    private void toOtherPlaces(int s, Message m) {
        for (int to = s % 2; to < 6; to += 2) {
            if (to != s) {
                send(s, to, m);
            }
        }
    }

    int deliver(int from, int to) {
        List<Message> row = row(from, to);
        if (row == null) {
            return -1;
        }
        if (row.isEmpty()) {
            return 0;
        }
        Message m = row.remove(0);
        take(from, to, m);
        return m.kind();
    }

    private void take(int from, int to, Message m) {
        Site site = sites[to];
        switch (m.kind()) {
            case 1 -> {
                int time = site.clock;
                for (int seen : m.vector()) {
                    time = Math.max(time, seen);
                }
                time = Math.max(time, m.latest()) + 1;
                site.clock = time;
                site.prepared.put(m.number(), time);
                send(to, from, new Message(2, m.number(), time, null, 0));
            }
            case 2 -> takePrepared(m);
            case 3 -> {
                site.prepared.remove(m.number());
                site.decided.put(m.number(), m.time());
                site.clock = Math.max(site.clock, m.time());
                apply(to);
            }
            case 4 -> keep(to, txs.get(m.number()));
            case 5 -> site.known[from / 2] = m.number();
            default -> site.heard = m.vector().clone();
        }
    }

    private void takePrepared(Message m) {
        Tx t = txs.get(m.number());
        t.answers.add(m.time());
        if (t.answers.size() < t.servers().size()) {
            return;
        }
        t.time = t.answers.stream().max(Comparator.naturalOrder()).orElseThrow();
        t.told = true;
        for (int s : t.servers()) {
            send(2 * t.place, s, new Message(3, t.number, t.time, null, 0));
        }
        User u = users[t.client];
        u.committing = false;
        u.latest = t.time;
        t.ints.forEach((k, v) -> u.own.put(k, new Version(t.number, t.time, t.place, t.stamp(), v)));
    }

    private void apply(int s) {
        Site site = sites[s];
        while (true) {
            int bound = site.prepared.values().stream().min(Comparator.naturalOrder()).orElse(Integer.MAX_VALUE);
            Map.Entry<Integer, Integer> least = site.decided.entrySet().stream()
                    .min(Map.Entry.<Integer, Integer>comparingByValue().thenComparing(Map.Entry.comparingByKey()))
                    .orElse(null);
            if (least == null || least.getValue() >= bound) {
                return;
            }
            int n = least.getKey();
            site.decided.remove(n);
            keep(s, txs.get(n));
            toOtherPlaces(s, new Message(4, n, 0, null, 0));
        }
    }

    private void keep(int s, Tx t) {
        sites[s].got.add(t.number);
        t.ints.forEach((k, v) -> {
            if (k % 2 == s % 2) {
                sites[s].versions.computeIfAbsent(k, key -> new ArrayList<>())
                        .add(new Version(t.number, t.time, t.place, t.stamp(), v));
            }
        });
    }

    int client(int c, int what) {
        if (!in(c, 6)) {
            return -1;
        }
        User u = users[c];
        return switch (what) {
            case 0 -> u.open != null ? 1 : u.committing ? 2 : 0;
            case 1 -> u.latest;
            case 2 -> u.own.size();
            case 3 -> u.open == null ? 0 : u.open.size();
            case 10, 11, 12 -> u.seen[what - 10];
            default -> -1;
        };
    }

    int server(int s, int what) {
        if (!in(s, 6)) {
            return -1;
        }
        Site site = sites[s];
        return switch (what) {
            case 0 -> site.clock;
            case 1 -> site.prepared.size();
            case 2 -> site.decided.size();
            case 3 -> site.got.size();
            case 10, 11, 12 -> site.known[what - 10];
            case 20, 21, 22 -> site.heard[what - 20];
            case 30, 31, 32 -> stable(s)[what - 30];
            default -> -1;
        };
    }

    int transaction(int n, int what) {
        if (!in(n, txs.size())) {
            return -1;
        }
        Tx t = txs.get(n);
        return switch (what) {
            case 0 -> t.place;
            case 1 -> t.told ? t.time : -1;
            case 2 -> t.told ? 1 : 0;
            case 3 -> t.ints.size();
            case 10, 11, 12 -> t.stamp()[what - 10];
            case 20, 21, 22, 23, 24, 25, 26, 27 -> t.ints.containsKey(what - 20) ? 1 : 0;
            default -> -1;
        };
    }

    int written(int n, int key) {
        return in(n, txs.size()) ? txs.get(n).ints.getOrDefault(key, 0) : 0;
    }

    int version(int s, int key, int i) {
        if (!in(s, 6) || !in(key, 8) || key % 2 != s % 2) {
            return -1;
        }
        List<Version> all = new ArrayList<>(sites[s].versions.getOrDefault(key, List.of()));
        all.sort(OLDER_FIRST.reversed());
        return in(i, all.size()) ? all.get(i).number() : -1;
    }

    int link(int from, int to, int what) {
        List<Message> row = row(from, to);
        if (row == null) {
            return -1;
        }
        return switch (what) {
            case 0 -> row.size();
            case 1 -> row.isEmpty() ? 0 : row.get(0).kind();
            case 2 -> row.isEmpty() ? -1 : row.get(0).number();
            default -> -1;
        };
    }
}
