import java.util.function.Supplier;

/** Promise 2: the tests of write in their order, the numbers and the stamps. */
public final class WriteTest {
    private static final int MIN = Integer.MIN_VALUE;
    private static final int MAX = Integer.MAX_VALUE;
    private static final int ROOM = 48;
    private static final int[] BAD_REPLICAS = {MIN, -1, 3, 4, MAX};
    private static final int[] BAD_KINDS = {MIN, -1, 6, 7, MAX};
    private static final int[] BAD_CELLS = {MIN, -1, 8, 9, MAX};
    private static final Due due = new Due();

    public static void main(String[] args) {
        due.under("replica not good: BAD_REPLICA", WriteTest::badReplica);
        due.under("kind not in 0 to 5: BAD_KIND", WriteTest::badKind);
        due.under("cell not in 0 to 7: BAD_CELL", WriteTest::badCell);
        due.under("there are 48 writes: LOG_FULL", WriteTest::full);
        due.under("Tests in this order", WriteTest::order);
        due.under("A refused call changes nothing.", WriteTest::refusedChangesNothing);
        due.under("A refused call changes nothing.", WriteTest::refusedByTheFullLog);
        due.under("Else the replica's clock goes up by 1", WriteTest::clockGoesUp);
        due.under("and is the write's stamp", WriteTest::clockIsTheStamp);
        due.under("the write gets the next number (0, 1, 2, .. over all replicas), which the call answers",
                WriteTest::numbers);
        due.under("belongs to what the replica knows, as a tentative write", WriteTest::belongsAsTentative);
        due.end();
    }

    private static void badReplica() {
        TentativeLog log = new TentativeLog(3);
        for (int bad : BAD_REPLICAS) {
            due.is("write(" + bad + ", 0, 0, 0)", log.write(bad, 0, 0, 0), TentativeLog.BAD_REPLICA);
        }
        due.is("write(2, 0, 0, 0)", log.write(2, 0, 0, 0), 0);
        due.is("write(0, 0, 0, 0)", log.write(0, 0, 0, 0), 1);
        due.is("two replicas: write(2, 0, 0, 0)", new TentativeLog(2).write(2, 0, 0, 0), TentativeLog.BAD_REPLICA);
        due.is("four replicas: write(3, 0, 0, 0)", new TentativeLog(4).write(3, 0, 0, 0), 0);
        due.is("four replicas: write(4, 0, 0, 0)", new TentativeLog(4).write(4, 0, 0, 0), TentativeLog.BAD_REPLICA);
    }

    private static void badKind() {
        TentativeLog log = new TentativeLog(3);
        for (int bad : BAD_KINDS) {
            due.is("write(0, " + bad + ", 0, 0)", log.write(0, bad, 0, 0), TentativeLog.BAD_KIND);
        }
        for (int kind = 0; kind <= 5; kind++) {
            due.is("write(0, " + kind + ", 0, 0)", log.write(0, kind, 0, 0), kind);
        }
    }

    private static void badCell() {
        TentativeLog log = new TentativeLog(3);
        for (int kind = 0; kind <= 5; kind++) {
            for (int bad : BAD_CELLS) {
                String call = "write(0, " + kind + ", " + bad + ", 0)";
                due.is(call, log.write(0, kind, bad, 0), TentativeLog.BAD_CELL);
            }
        }
        for (int cell = 0; cell <= 7; cell++) {
            due.is("write(0, 0, " + cell + ", 0)", log.write(0, 0, cell, 0), cell);
        }
    }

    private static void full() {
        TentativeLog log = fullLog();
        for (int r = 0; r < 3; r++) {
            for (int kind = 0; kind <= 5; kind++) {
                due.is("full: write(" + r + ", " + kind + ", 0, 0)", log.write(r, kind, 0, 0), TentativeLog.LOG_FULL);
            }
        }
        TentativeLog almost = new TentativeLog(2);
        for (int n = 0; n < ROOM - 1; n++) {
            almost.write(0, TentativeLog.ADD, 0, 1);
        }
        due.is("the 48th", almost.write(1, TentativeLog.ADD, 0, 1), ROOM - 1);
        due.is("the 49th", almost.write(1, TentativeLog.ADD, 0, 1), TentativeLog.LOG_FULL);
        due.is("the 50th", almost.write(0, TentativeLog.ADD, 0, 1), TentativeLog.LOG_FULL);
    }

    private static TentativeLog fullLog() {
        TentativeLog log = new TentativeLog(3);
        for (int n = 0; n < ROOM; n++) {
            due.is("filling it", log.write(n % 3, TentativeLog.ADD, 0, 1), n);
        }
        return log;
    }

    /** Each wrong thing with all that are tested behind it. */
    private static void order() {
        TentativeLog log = fullLog();
        for (int r : BAD_REPLICAS) {
            due.is("all four wrong, " + r, log.write(r, 6, 8, 0), TentativeLog.BAD_REPLICA);
            due.is("replica and kind, " + r, log.write(r, -1, 0, 0), TentativeLog.BAD_REPLICA);
            due.is("replica and cell, " + r, log.write(r, 0, -1, 0), TentativeLog.BAD_REPLICA);
            due.is("replica and full, " + r, log.write(r, 0, 0, 0), TentativeLog.BAD_REPLICA);
        }
        for (int kind : BAD_KINDS) {
            due.is("kind, cell and full, " + kind, log.write(0, kind, 8, 0), TentativeLog.BAD_KIND);
            due.is("kind and full, " + kind, log.write(0, kind, 0, 0), TentativeLog.BAD_KIND);
        }
        for (int cell : BAD_CELLS) {
            due.is("cell and full, " + cell, log.write(0, 0, cell, 0), TentativeLog.BAD_CELL);
        }
        TentativeLog empty = new TentativeLog(3);
        due.is("replica, kind and cell", empty.write(3, 6, 8, 0), TentativeLog.BAD_REPLICA);
        due.is("kind and cell", empty.write(0, 6, 8, 0), TentativeLog.BAD_KIND);
    }

    /** The twin has the same writes without the refused calls among them. */
    private static void refusedChangesNothing() {
        TentativeLog log = new TentativeLog(4);
        TentativeLog twin = new TentativeLog(4);
        for (int n = 0; n < 6; n++) {
            int r = n * n % 3;
            refuse(log, r);
            due.is("number", log.write(r, n, n, 4), twin.write(r, n, n, 4));
            refuse(log, r);
            due.is("bring", log.bring(r, 2 - r), twin.bring(r, 2 - r));
        }
        refuse(log, 0);
        due.is("commit(3)", log.commit(3), twin.commit(3));
        refuse(log, 0);
        due.same("refused calls among them", log, twin, 4);
        due.clocks("refused on new clocks", () -> refusedAt(0, 1, 2), 0, 0, 0);
        due.clocks("refused behind two writes of 1", () -> {
            TentativeLog used = refusedAt(1);
            used.write(1, TentativeLog.ADD, 3, 1);
            refuse(used, 1);
            used.write(1, TentativeLog.ADD, 3, 1);
            refuse(used, 1);
            return used;
        }, 0, 2, 0);
    }

    private static TentativeLog refusedAt(int... replicas) {
        TentativeLog log = new TentativeLog(4);
        for (int r : replicas) {
            refuse(log, r);
        }
        return log;
    }

    private static void refuse(TentativeLog log, int r) {
        log.write(-1, 0, 0, 77);
        log.write(4, 0, 0, 77);
        log.write(r, -1, 0, 77);
        log.write(r, 6, 0, 77);
        log.write(r, 0, -1, 77);
        log.write(r, 0, 8, 77);
    }

    private static void refusedByTheFullLog() {
        TentativeLog log = fullLog();
        for (int time = 0; time < 20; time++) {
            log.write(time % 3, TentativeLog.SET, 0, 77);
        }
        due.same("refused by the full log", log, fullLog(), 3);
        due.is("bring(0, 1)", log.bring(0, 1), 16);
        due.is("commit(99)", log.commit(99), 16);
    }

    /** The clock of the replica that takes the writes, and no other one. */
    private static void clockGoesUp() {
        for (int k = 0; k <= 22; k++) {
            due.clocks(k + " writes of 0", log(k, 0), k, 0, 0);
            due.clocks(k + " writes of 1", log(k, 1), 0, k, 0);
            due.clocks(k + " writes of 2", log(k, 2), 0, 0, k);
        }
        due.clocks("writes of all three", () -> {
            TentativeLog log = new TentativeLog(4);
            for (int r : new int[] {0, 1, 0, 2, 0, 1}) {
                log.write(r, TentativeLog.ADD, 3, 1);
            }
            return log;
        }, 3, 2, 1);
    }

    private static Supplier<TentativeLog> log(int writes, int replica) {
        return () -> {
            TentativeLog log = new TentativeLog(4);
            for (int n = 0; n < writes; n++) {
                log.write(replica, n % 6, 3, 0);
            }
            return log;
        };
    }

    private static void clockIsTheStamp() {
        TentativeLog log = new TentativeLog(3);
        log.write(2, TentativeLog.SET, 0, 1);
        log.write(2, TentativeLog.SET, 0, 2);
        log.bring(2, 1);
        log.write(1, TentativeLog.SET, 0, 3);
        due.is("learned clock 2, so stamp 3: cell(1, 0)", log.cell(1, 0), 3);
        log.write(2, TentativeLog.SET, 0, 4);
        log.bring(2, 1);
        due.is("stamp 3 of origins 1 and 2: cell(1, 0)", log.cell(1, 0), 4);
        log.write(0, TentativeLog.SET, 0, 5);
        log.bring(0, 1);
        due.is("stamp 1 of origin 0 is no last one: cell(1, 0)", log.cell(1, 0), 4);
        manyKnownButASmallClock();
    }

    /** Replica 1 knows four writes, but the clock is 2: its next stamp is 3, as that of replica 2. */
    private static void manyKnownButASmallClock() {
        TentativeLog log = new TentativeLog(3);
        log.write(0, TentativeLog.ADD, 1, 1);
        log.write(1, TentativeLog.ADD, 1, 1);
        log.write(2, TentativeLog.ADD, 1, 1);
        log.write(2, TentativeLog.ADD, 1, 1);
        log.bring(0, 1);
        log.bring(2, 1);
        log.write(1, TentativeLog.SET, 0, 5);
        log.write(2, TentativeLog.SET, 0, 6);
        log.bring(2, 1);
        due.is("both have stamp 3, origin 2 is last: cell(1, 0)", log.cell(1, 0), 6);
    }

    private static void numbers() {
        for (int replicas = 2; replicas <= 4; replicas++) {
            TentativeLog log = new TentativeLog(replicas);
            for (int n = 0; n < ROOM; n++) {
                due.is("number " + n, log.write(n * n % replicas, n % 6, n & 7, n), n);
                log.commit(n & 1);
                log.bring(0, 1);
            }
        }
    }

    private static void belongsAsTentative() {
        TentativeLog log = new TentativeLog(3);
        log.write(1, TentativeLog.SET, 4, 6);
        due.is("known(1)", log.known(1), 1);
        due.is("known(0)", log.known(0), 0);
        due.is("known(2)", log.known(2), 0);
        due.is("cell(1, 4)", log.cell(1, 4), 6);
        due.is("cell(0, 4)", log.cell(0, 4), 0);
        due.is("stable(1, 4)", log.stable(1, 4), 0);
        due.is("committed(1)", log.committed(1), 0);
        due.is("standing(1, 0)", log.standing(1, 0), TentativeLog.APPLIED);
        log.write(0, TentativeLog.SET, 4, 7);
        due.is("replica 0's own is tentative too: stable(0, 4)", log.stable(0, 4), 0);
        due.is("replica 0's own is tentative too: standing(0, 1)", log.standing(0, 1), TentativeLog.APPLIED);
        log.commit(1);
        log.write(0, TentativeLog.SET, 4, 8);
        due.is("behind a commit: stable(0, 4)", log.stable(0, 4), 7);
        due.is("behind a commit: standing(0, 2)", log.standing(0, 2), TentativeLog.APPLIED);
    }
}
