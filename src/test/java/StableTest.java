/** Promise 7: a cell of the stable store, which only committed writes have made. */
public final class StableTest {
    private static final int MIN = Integer.MIN_VALUE;
    private static final int MAX = Integer.MAX_VALUE;
    private static final Due due = new Due();

    public static void main(String[] args) {
        due.under("A cell of the replica's stable store.", StableTest::everyCell);
        due.under("A cell of the replica's stable store.", StableTest::inCommitOrder);
        due.under("0 if the replica is not good", StableTest::badReplica);
        due.under("or the cell not in 0 to 7", StableTest::badCell);
        due.end();
    }

    private static TentativeLog filled(int replicas) {
        TentativeLog log = new TentativeLog(replicas);
        for (int c = 0; c < 8; c++) {
            log.write(0, TentativeLog.SET, c, 20 + c);
        }
        return log;
    }

    private static TentativeLog filledAndCommitted(int replicas) {
        TentativeLog log = filled(replicas);
        log.commit(8);
        for (int r = 1; r < replicas; r++) {
            log.bring(0, r);
        }
        return log;
    }

    private static void everyCell() {
        TentativeLog log = filled(2);
        due.stable("none committed", log, 0, 0, 0, 0, 0, 0, 0, 0, 0);
        log.commit(3);
        due.stable("three committed", log, 0, 20, 21, 22, 0, 0, 0, 0, 0);
        log.bring(0, 1);
        log.commit(5);
        due.stable("all committed", log, 0, 20, 21, 22, 23, 24, 25, 26, 27);
        due.stable("the other knows of three", log, 1, 20, 21, 22, 0, 0, 0, 0, 0);
        log.write(0, TentativeLog.SET, 0, 9);
        due.stable("a tentative one on top", log, 0, 20, 21, 22, 23, 24, 25, 26, 27);
    }

    /** The commit order counts, not the stamps: the write of stamp 1 was committed last. */
    private static void inCommitOrder() {
        TentativeLog log = new TentativeLog(2);
        log.write(1, TentativeLog.TAKE, 0, 4);
        log.write(0, TentativeLog.SET, 0, 3);
        log.write(0, TentativeLog.ADD, 0, 2);
        log.commit(2);
        log.bring(1, 0);
        due.is("stable(0, 0)", log.stable(0, 0), 5);
        log.commit(1);
        due.is("stable(0, 0)", log.stable(0, 0), 1);
        log.bring(0, 1);
        due.is("stable(1, 0)", log.stable(1, 0), 1);
    }

    private static void badReplica() {
        for (int replicas = 2; replicas <= 4; replicas++) {
            TentativeLog log = filledAndCommitted(replicas);
            due.is(replicas + " replicas: the last one", log.stable(replicas - 1, 7), 27);
            for (int bad : new int[] {MIN, -4, -1, replicas, replicas + 1, 8, MAX}) {
                for (int c = 0; c < 8; c++) {
                    due.is(replicas + " replicas: stable(" + bad + ", " + c + ")", log.stable(bad, c), 0);
                }
            }
        }
    }

    private static void badCell() {
        TentativeLog log = filledAndCommitted(3);
        for (int bad : new int[] {MIN, -8, -1, 8, 9, 15, 16, MAX}) {
            for (int r = -1; r <= 3; r++) {
                due.is("stable(" + r + ", " + bad + ")", log.stable(r, bad), 0);
            }
        }
    }
}
