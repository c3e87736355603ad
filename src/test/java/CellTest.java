/** Promise 6: a cell of the store, which is the stable store and then the tentative writes. */
public final class CellTest {
    private static final int MIN = Integer.MIN_VALUE;
    private static final int MAX = Integer.MAX_VALUE;
    private static final Due due = new Due();

    public static void main(String[] args) {
        due.under("A cell of the replica's store.", CellTest::everyCell);
        due.under("A cell of the replica's store.", CellTest::onItsOwnStableStore);
        due.under("0 if the replica is not good", CellTest::badReplica);
        due.under("or the cell not in 0 to 7", CellTest::badCell);
        due.end();
    }

    /** Every replica's every cell is other than 0, so that a 0 can come of nothing else. */
    private static TentativeLog filled(int replicas) {
        TentativeLog log = new TentativeLog(replicas);
        for (int r = 0; r < replicas; r++) {
            for (int c = 0; c < 8; c++) {
                log.write(r, TentativeLog.SET, c, 10 * r + c + 1);
            }
        }
        return log;
    }

    private static void everyCell() {
        TentativeLog log = filled(4);
        due.store("its own", log, 0, 1, 2, 3, 4, 5, 6, 7, 8);
        due.store("its own", log, 3, 31, 32, 33, 34, 35, 36, 37, 38);
        log.commit(4);
        due.store("half committed", log, 0, 1, 2, 3, 4, 5, 6, 7, 8);
        log.commit(4);
        due.store("all committed", log, 0, 1, 2, 3, 4, 5, 6, 7, 8);
        log.bring(0, 3);
        due.store("its own behind the committed ones", log, 3, 31, 32, 33, 34, 35, 36, 37, 38);
    }

    /** Replica 0 knows of more commits than the others, whose stores start where their own m ends. */
    private static void onItsOwnStableStore() {
        TentativeLog log = new TentativeLog(3);
        log.write(0, TentativeLog.ADD, 0, 1);
        log.write(0, TentativeLog.ADD, 0, 10);
        log.write(1, TentativeLog.ADD, 0, 100);
        log.commit(1);
        due.is("m is 0 here and 1 at replica 0: cell(1, 0)", log.cell(1, 0), 100);
        due.is("m is 0 here and 1 at replica 0: cell(2, 0)", log.cell(2, 0), 0);
        log.bring(0, 1);
        log.commit(1);
        due.is("m is 1 here and 2 at replica 0: cell(1, 0)", log.cell(1, 0), 111);
        due.is("m is 2: cell(0, 0)", log.cell(0, 0), 11);
    }

    private static void badReplica() {
        for (int replicas = 2; replicas <= 4; replicas++) {
            TentativeLog log = filled(replicas);
            for (int bad : new int[] {MIN, -4, -1, replicas, replicas + 1, 8, MAX}) {
                for (int c = 0; c < 8; c++) {
                    due.is(replicas + " replicas: cell(" + bad + ", " + c + ")", log.cell(bad, c), 0);
                }
            }
        }
    }

    private static void badCell() {
        TentativeLog log = filled(3);
        for (int bad : new int[] {MIN, -8, -1, 8, 9, 15, 16, MAX}) {
            for (int r = -1; r <= 3; r++) {
                due.is("cell(" + r + ", " + bad + ")", log.cell(r, bad), 0);
            }
        }
    }
}
