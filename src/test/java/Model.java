import java.util.ArrayList;
import java.util.Comparator;
import java.util.List;
import java.util.TreeSet;

/**
 * The document's words set down a second time, as plainly as the Java library allows, and in
 * another shape than the program: every replica keeps a set of its own and sorts it when asked.
 */
final class Model {
    private record Write(int number, int origin, int stamp, int kind, int cell, int value) {}

    private static final Comparator<Write> ORDER =
            Comparator.comparingInt(Write::stamp).thenComparingInt(Write::origin);

    private static final class Replica {
        final TreeSet<Integer> set = new TreeSet<>();
        int m = 0;
        int clock = 0;
        int trimmed = 0;
    }

    private final List<Write> all = new ArrayList<>();
    private final List<Write> order = new ArrayList<>();
    private final List<Replica> replicas = new ArrayList<>();

    Model(int count) {
        for (int r = 0; r < Math.max(2, Math.min(4, count)); r++) {
            replicas.add(new Replica());
        }
    }

    int write(int replica, int kind, int cell, int value) {
        if (bad(replica)) {
            return -1;
        }
        if (kind < 0 || kind > 5) {
            return -2;
        }
        if (cell < 0 || cell > 7) {
            return -3;
        }
        if (all.size() == 48) {
            return -4;
        }
        Replica at = replicas.get(replica);
        at.clock++;
        Write write = new Write(all.size(), replica, at.clock, kind, cell, value);
        all.add(write);
        at.set.add(write.number());
        return write.number();
    }

    int bring(int from, int to) {
        if (bad(from) || bad(to)) {
            return -1;
        }
        if (from == to) {
            return -5;
        }
        Replica source = replicas.get(from);
        Replica target = replicas.get(to);
        int before = target.set.size();
        target.set.addAll(source.set);
        target.m = Math.max(target.m, source.m);
        target.clock = Math.max(target.clock, source.clock);
        return target.set.size() - before;
    }

    int commit(int n) {
        int done = 0;
        while (done < n && !tentative(0).isEmpty()) {
            order.add(tentative(0).get(0));
            replicas.get(0).m++;
            done++;
        }
        return done;
    }

    int trim(int replica, int n) {
        if (bad(replica)) {
            return -1;
        }
        Replica at = replicas.get(replica);
        at.trimmed = Math.max(at.trimmed, Math.min(Math.max(n, 0), at.m));
        return at.trimmed;
    }

    int cell(int replica, int cell) {
        if (bad(replica) || cell < 0 || cell > 7) {
            return 0;
        }
        int[] store = stableStore(replica);
        tentative(replica).forEach(write -> run(write, store));
        return store[cell];
    }

    int stable(int replica, int cell) {
        return bad(replica) || cell < 0 || cell > 7 ? 0 : stableStore(replica)[cell];
    }

    int known(int replica) {
        return bad(replica) ? -1 : replicas.get(replica).set.size();
    }

    int committed(int replica) {
        return bad(replica) ? -1 : replicas.get(replica).m;
    }

    int standing(int replica, int number) {
        if (bad(replica)) {
            return -1;
        }
        if (!replicas.get(replica).set.contains(number)) {
            return 0;
        }
        int[] store = stableStore(replica);
        for (Write write : tentative(replica)) {
            int outcome = run(write, store);
            if (write.number() == number) {
                return outcome;
            }
        }
        return 1;
    }

    private boolean bad(int replica) {
        return replica < 0 || replica >= replicas.size();
    }

    private List<Write> tentative(int replica) {
        Replica at = replicas.get(replica);
        List<Write> known = new ArrayList<>();
        at.set.forEach(number -> known.add(all.get(number)));
        known.removeAll(order.subList(0, at.m));
        known.sort(ORDER);
        return known;
    }

    private int[] stableStore(int replica) {
        int[] store = new int[8];
        order.subList(0, replicas.get(replica).m).forEach(write -> run(write, store));
        return store;
    }

    private static int run(Write write, int[] store) {
        int c = write.cell();
        int v = write.value();
        int next = c == 7 ? 0 : c + 1;
        if (write.kind() == 0) {
            store[c] = v;
        } else if (write.kind() == 1) {
            store[c] = store[c] + v;
        } else if (write.kind() == 2) {
            int payer = store[c] >= v ? c : store[next] >= v ? next : -1;
            if (payer < 0) {
                return 4;
            }
            store[payer] = store[payer] - v;
            return payer == c ? 2 : 3;
        } else if (write.kind() == 3) {
            if (store[c] < v) {
                return 4;
            }
            store[c] = store[c] - v;
            store[next] = store[next] + v;
        } else if (write.kind() == 4) {
            int free = c;
            for (int tries = 0; tries < 8 && store[free] != 0; tries++) {
                free = free == 7 ? 0 : free + 1;
            }
            if (store[free] != 0) {
                return 4;
            }
            store[free] = v;
            return free == c ? 2 : 3;
        } else {
            int kept = store[next];
            store[next] = store[c];
            store[c] = kept;
        }
        return 2;
    }
}
