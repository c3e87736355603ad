/** Promise 9: a replica's m. */
public final class CommittedTest {
    private static final Due due = new Due();

    public static void main(String[] args) {
        TentativeLog log = new TentativeLog(4);
        for (int bad : new int[] {Integer.MIN_VALUE, -1, 4, 5, Integer.MAX_VALUE}) {
            due.is("committed(" + bad + ")", log.committed(bad), TentativeLog.BAD_REPLICA);
        }
        due.is("two replicas: committed(2)", new TentativeLog(2).committed(2), TentativeLog.BAD_REPLICA);
        for (int n = 0; n < 48; n++) {
            log.write(0, TentativeLog.TAKE, 0, 1);
        }
        all(log, "written", 0, 0, 0, 0);
        log.commit(1);
        all(log, "one committed", 1, 0, 0, 0);
        log.bring(0, 1);
        log.commit(46);
        all(log, "47 committed", 47, 1, 0, 0);
        log.bring(0, 2);
        log.commit(46);
        all(log, "48 committed", 48, 1, 47, 0);
        log.bring(1, 3);
        all(log, "passed on", 48, 1, 47, 1);
        log.bring(3, 2);
        all(log, "a smaller m brought", 48, 1, 47, 1);
        log.bring(2, 3);
        all(log, "a larger m brought", 48, 1, 47, 47);
        log.trim(0, 48);
        log.trim(2, 5);
        all(log, "trimmed", 48, 1, 47, 47);
        due.end();
    }

    private static void all(TentativeLog log, String when, int... want) {
        for (int r = 0; r < want.length; r++) {
            due.is(when + ": committed(" + r + ")", log.committed(r), want[r]);
        }
    }
}
