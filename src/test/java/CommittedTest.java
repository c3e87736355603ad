/** Promise 9: a replica's m. */
public final class CommittedTest {
    private static final int ROOM = 48;
    private static final Due due = new Due();

    public static void main(String[] args) {
        due.under("The replica's m", CommittedTest::noneToAll);
        due.under("The replica's m", CommittedTest::eachItsOwn);
        due.under("BAD_REPLICA if it is not good", CommittedTest::badReplica);
        due.end();
    }

    private static void all(TentativeLog log, String when, int... want) {
        for (int r = 0; r < want.length; r++) {
            due.is(when + ": committed(" + r + ")", log.committed(r), want[r]);
        }
    }

    private static TentativeLog full() {
        TentativeLog log = new TentativeLog(4);
        for (int n = 0; n < ROOM; n++) {
            log.write(0, TentativeLog.TAKE, 0, 1);
        }
        return log;
    }

    private static void noneToAll() {
        TentativeLog log = full();
        for (int m = 0; m <= ROOM; m++) {
            due.is("committed(0)", log.committed(0), m);
            log.commit(1);
        }
        due.is("none left: committed(0)", log.committed(0), ROOM);
    }

    private static void eachItsOwn() {
        TentativeLog log = full();
        all(log, "written", 0, 0, 0, 0);
        log.commit(1);
        all(log, "one committed", 1, 0, 0, 0);
        log.bring(0, 1);
        log.commit(46);
        all(log, "47 committed", 47, 1, 0, 0);
        log.bring(0, 2);
        log.commit(46);
        all(log, "48 committed", 48, 1, 47, 0);
        log.bring(1, 3);
        all(log, "passed on", 48, 1, 47, 1);
        log.bring(3, 2);
        all(log, "a smaller m brought", 48, 1, 47, 1);
        log.bring(2, 3);
        all(log, "a larger m brought", 48, 1, 47, 47);
        log.trim(0, 48);
        log.trim(2, 5);
        all(log, "trimmed", 48, 1, 47, 47);
    }

    private static void badReplica() {
        for (int replicas = 2; replicas <= 4; replicas++) {
            TentativeLog log = new TentativeLog(replicas);
            log.write(0, TentativeLog.ADD, 0, 1);
            log.commit(1);
            for (int bad : new int[] {Integer.MIN_VALUE, -4, -1, replicas, replicas + 1, 8, Integer.MAX_VALUE}) {
                due.is(replicas + " replicas: committed(" + bad + ")", log.committed(bad), TentativeLog.BAD_REPLICA);
            }
            due.is(replicas + " replicas: committed(" + (replicas - 1) + ")", log.committed(replicas - 1), 0);
        }
    }
}
