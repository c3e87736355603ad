/** Promise 8: how many writes a replica's set has, tentative and committed ones alike. */
public final class KnownTest {
    private static final int ROOM = 48;
    private static final Due due = new Due();

    public static void main(String[] args) {
        due.under("How many writes the replica's set has", KnownTest::noneToAll);
        due.under("How many writes the replica's set has", KnownTest::union);
        due.under("BAD_REPLICA if it is not good", KnownTest::badReplica);
        due.end();
    }

    private static void noneToAll() {
        TentativeLog log = new TentativeLog(3);
        for (int n = 0; n < ROOM; n++) {
            due.is("known(1) before write " + n, log.known(1), n);
            log.write(1, TentativeLog.TAKE, 0, 1);
        }
        due.is("full: known(1)", log.known(1), ROOM);
        log.write(1, TentativeLog.TAKE, 0, 1);
        due.is("refused: known(1)", log.known(1), ROOM);
        due.is("known(0)", log.known(0), 0);
        log.bring(1, 0);
        due.is("learned: known(0)", log.known(0), ROOM);
        log.commit(20);
        log.trim(0, 20);
        due.is("committed and trimmed: known(0)", log.known(0), ROOM);
        log.commit(ROOM);
        due.is("none tentative: known(0)", log.known(0), ROOM);
        due.is("known(2)", log.known(2), 0);
    }

    private static void union() {
        TentativeLog log = new TentativeLog(4);
        log.write(0, TentativeLog.ADD, 0, 1);
        log.bring(0, 1);
        log.bring(0, 2);
        log.write(1, TentativeLog.ADD, 0, 1);
        log.write(2, TentativeLog.ADD, 0, 1);
        log.bring(1, 3);
        log.bring(2, 3);
        due.is("known(3)", log.known(3), 3);
        due.is("known(1)", log.known(1), 2);
        due.is("known(2)", log.known(2), 2);
        due.is("known(0)", log.known(0), 1);
    }

    private static void badReplica() {
        for (int replicas = 2; replicas <= 4; replicas++) {
            TentativeLog log = new TentativeLog(replicas);
            log.write(0, TentativeLog.ADD, 0, 1);
            for (int bad : new int[] {Integer.MIN_VALUE, -4, -1, replicas, replicas + 1, 8, Integer.MAX_VALUE}) {
                due.is(replicas + " replicas: known(" + bad + ")", log.known(bad), TentativeLog.BAD_REPLICA);
            }
            due.is(replicas + " replicas: known(" + (replicas - 1) + ")", log.known(replicas - 1), 0);
        }
    }
}
