/**
 * Two to four replicas of a store of eight cells. Every replica takes writes; they are tentative
 * until replica 0 has put them into the one commit order.
 */
public final class TentativeLog {
    public static final int BAD_REPLICA = -1;
    public static final int BAD_KIND = -2;
    public static final int BAD_CELL = -3;
    public static final int LOG_FULL = -4;
    public static final int SAME = -5;
    public static final int SET = 0;
    public static final int ADD = 1;
    public static final int TAKE = 2;
    public static final int MOVE = 3;
    public static final int CLAIM = 4;
    public static final int SWAP = 5;
    public static final int UNKNOWN = 0;
    public static final int COMMITTED = 1;
    public static final int APPLIED = 2;
    public static final int MERGED = 3;
    public static final int FAILED = 4;

    private static final int FEWEST_REPLICAS = 2;
    private static final int MOST_REPLICAS = 4;
    private static final int COMMITTER = 0;
    private static final int CELLS = 8;
    private static final int LAST_CELL = 7;
    private static final int ROOM = 48;
    // No replica's m exceeds the room, so a write at this place is below nobody's m.
    private static final int NOT_IN_ORDER = ROOM;

    private final int replicas;

    // The writes, by their number.
    private int writes = 0;
    private final int[] origins = new int[ROOM];
    private final int[] stamps = new int[ROOM];
    private final int[] kinds = new int[ROOM];
    private final int[] targets = new int[ROOM];
    private final int[] values = new int[ROOM];
    private final int[] places = new int[ROOM];

    // All writes in the order of (stamp, origin): every replica's tentative writes are a part of
    // this one list, so none has to be sorted when it is run.
    private final int[] byStamp = new int[ROOM];
    private final int[] commitOrder = new int[ROOM];

    // What each replica knows: its set, with bit k for write k (48 writes fit a long), and its m.
    private final long[] sets = new long[MOST_REPLICAS];
    private final int[] commits = new int[MOST_REPLICAS];
    private final int[] clocks = new int[MOST_REPLICAS];
    private final int[] trims = new int[MOST_REPLICAS];

    // Room for one run of writes. Each question runs anew from eight zeros, so nothing in here
    // outlives the call that filled it.
    private final int[] store = new int[CELLS];
    private final int[] outcomes = new int[ROOM];

    public TentativeLog(int replicas) {
        if (replicas < FEWEST_REPLICAS) {
            this.replicas = FEWEST_REPLICAS;
        } else if (replicas > MOST_REPLICAS) {
            this.replicas = MOST_REPLICAS;
        } else {
            this.replicas = replicas;
        }
    }

    public int write(int replica, int kind, int cell, int value) {
        if (!isReplica(replica)) {
            return BAD_REPLICA;
        }
        if (kind < SET || kind > SWAP) {
            return BAD_KIND;
        }
        if (!isCell(cell)) {
            return BAD_CELL;
        }
        if (writes >= ROOM) {
            return LOG_FULL;
        }
        int number = writes;
        clocks[replica]++;
        origins[number] = replica;
        stamps[number] = clocks[replica];
        kinds[number] = kind;
        targets[number] = cell;
        values[number] = value;
        places[number] = NOT_IN_ORDER;
        insertByStamp(number);
        writes++;
        sets[replica] |= 1L << number;
        return number;
    }

    public int bring(int from, int to) {
        if (!isReplica(from) || !isReplica(to)) {
            return BAD_REPLICA;
        }
        if (from == to) {
            return SAME;
        }
        long learned = sets[from] & ~sets[to];
        sets[to] |= learned;
        commits[to] = larger(commits[from], commits[to]);
        clocks[to] = larger(clocks[from], clocks[to]);
        return sizeOf(learned);
    }

    public int commit(int n) {
        int done = 0;
        // One pass is enough: what is committed on the way leaves the order of the rest as it is.
        for (int i = 0; i < writes && done < n; i++) {
            int number = byStamp[i];
            if (isTentative(COMMITTER, number)) {
                appendToOrder(number);
                done++;
            }
        }
        return done;
    }

    public int trim(int replica, int n) {
        if (!isReplica(replica)) {
            return BAD_REPLICA;
        }
        int named = n > commits[replica] ? commits[replica] : n;
        // The greatest so far starts at 0, so an n below 0 counts as 0 without a test of its own.
        // There is nothing to drop: the commit order is held once, and other replicas need it.
        trims[replica] = larger(trims[replica], named);
        return trims[replica];
    }

    public int cell(int replica, int cell) {
        if (!isReplica(replica) || !isCell(cell)) {
            return 0;
        }
        runCommitted(replica);
        runTentative(replica);
        return store[cell];
    }

    public int stable(int replica, int cell) {
        if (!isReplica(replica) || !isCell(cell)) {
            return 0;
        }
        runCommitted(replica);
        return store[cell];
    }

    public int known(int replica) {
        return isReplica(replica) ? sizeOf(sets[replica]) : BAD_REPLICA;
    }

    public int committed(int replica) {
        return isReplica(replica) ? commits[replica] : BAD_REPLICA;
    }

    public int standing(int replica, int number) {
        if (!isReplica(replica)) {
            return BAD_REPLICA;
        }
        if (number < 0 || number >= writes || !isInSet(replica, number)) {
            return UNKNOWN;
        }
        if (!isTentative(replica, number)) {
            return COMMITTED;
        }
        runCommitted(replica);
        runTentative(replica);
        return outcomes[number];
    }

    private boolean isReplica(int replica) {
        return replica >= 0 && replica < replicas;
    }

    private static boolean isCell(int cell) {
        return cell >= 0 && cell < CELLS;
    }

    private static int larger(int a, int b) {
        return a > b ? a : b;
    }

    private static int sizeOf(long set) {
        int size = 0;
        for (int number = 0; number < ROOM; number++) {
            if ((set >>> number & 1L) == 1L) {
                size++;
            }
        }
        return size;
    }

    private boolean isInSet(int replica, int number) {
        return (sets[replica] >>> number & 1L) == 1L;
    }

    private boolean isTentative(int replica, int number) {
        return isInSet(replica, number) && places[number] >= commits[replica];
    }

    private void insertByStamp(int number) {
        int at = writes;
        while (at > 0 && comesBefore(number, byStamp[at - 1])) {
            byStamp[at] = byStamp[at - 1];
            at--;
        }
        byStamp[at] = number;
    }

    private boolean comesBefore(int a, int b) {
        if (stamps[a] != stamps[b]) {
            return stamps[a] < stamps[b];
        }
        return origins[a] < origins[b];
    }

    private void appendToOrder(int number) {
        int place = commits[COMMITTER];
        commitOrder[place] = number;
        places[number] = place;
        commits[COMMITTER] = place + 1;
    }

    private void runCommitted(int replica) {
        for (int c = 0; c < CELLS; c++) {
            store[c] = 0;
        }
        for (int place = 0; place < commits[replica]; place++) {
            runWrite(commitOrder[place]);
        }
    }

    private void runTentative(int replica) {
        for (int i = 0; i < writes; i++) {
            int number = byStamp[i];
            if (isTentative(replica, number)) {
                outcomes[number] = runWrite(number);
            }
        }
    }

    private int runWrite(int number) {
        int c = targets[number];
        int v = values[number];
        switch (kinds[number]) {
            case SET:
                store[c] = v;
                return APPLIED;
            case ADD:
                store[c] += v;
                return APPLIED;
            case TAKE:
                return runTake(c, v);
            case MOVE:
                return runMove(c, v);
            case CLAIM:
                return runClaim(c, v);
            default:
                return runSwap(c);
        }
    }

    private int runTake(int c, int v) {
        int next = (c + 1) & LAST_CELL;
        if (store[c] >= v) {
            store[c] -= v;
            return APPLIED;
        }
        if (store[next] >= v) {
            store[next] -= v;
            return MERGED;
        }
        return FAILED;
    }

    private int runMove(int c, int v) {
        int next = (c + 1) & LAST_CELL;
        if (store[c] < v) {
            return FAILED;
        }
        store[c] -= v;
        store[next] += v;
        return APPLIED;
    }

    private int runClaim(int c, int v) {
        for (int step = 0; step < CELLS; step++) {
            int tried = (c + step) & LAST_CELL;
            if (store[tried] == 0) {
                store[tried] = v;
                return step == 0 ? APPLIED : MERGED;
            }
        }
        return FAILED;
    }

    private int runSwap(int c) {
        int next = (c + 1) & LAST_CELL;
        int kept = store[c];
        store[c] = store[next];
        store[next] = kept;
        return APPLIED;
    }
}
