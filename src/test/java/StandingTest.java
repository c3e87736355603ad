/** Promise 10: how a write stands at each replica. */
public final class StandingTest {
    private static final int MIN = Integer.MIN_VALUE;
    private static final int MAX = Integer.MAX_VALUE;
    private static final int ROOM = 48;
    private static final Due due = new Due();

    public static void main(String[] args) {
        due.under("replica not good: BAD_REPLICA.", StandingTest::badReplica);
        due.under("UNKNOWN if there is no write of this number", StandingTest::noSuchNumber);
        due.under("or it is not in the replica's set", StandingTest::notInTheSet);
        due.under("COMMITTED if it is among the first m of the commit order", StandingTest::committed);
        due.under("COMMITTED if it is among the first m of the commit order", StandingTest::committedThoughItFailed);
        due.under("else the outcome of the tentative write: APPLIED, MERGED or FAILED.", StandingTest::outcome);
        due.under("else the outcome of the tentative write: APPLIED, MERGED or FAILED.",
                StandingTest::onItsOwnStableStore);
        due.under("How a write stands at a replica.", StandingTest::itsOwnViewOfTheOrder);
        due.end();
    }

    /** The number may be wrong as well, or of a committed write: the replica is looked at first. */
    private static void badReplica() {
        for (int replicas = 2; replicas <= 4; replicas++) {
            TentativeLog log = new TentativeLog(replicas);
            log.write(0, TentativeLog.SET, 0, 1);
            log.write(0, TentativeLog.SET, 0, 1);
            log.commit(1);
            for (int bad : new int[] {MIN, -4, -1, replicas, replicas + 1, 8, MAX}) {
                for (int number : new int[] {MIN, -1, 0, 1, 2, 47, 48, MAX}) {
                    due.is(replicas + " replicas: standing(" + bad + ", " + number + ")",
                            log.standing(bad, number), TentativeLog.BAD_REPLICA);
                }
            }
            due.is(replicas + " replicas: the last one", log.standing(replicas - 1, 0), TentativeLog.UNKNOWN);
        }
    }

    /** 64 apart, a shift by the number would meet the same bit again. */
    private static void noSuchNumber() {
        TentativeLog log = new TentativeLog(2);
        due.is("no write: standing(0, 0)", log.standing(0, 0), TentativeLog.UNKNOWN);
        int[] outside = {MIN, -65, -64, -63, -1, 47, 48, 49, 63, 64, 65, 128, MAX};
        log.write(0, TentativeLog.SET, 0, 1);
        log.write(0, TentativeLog.SET, 0, 1);
        due.is("the last: standing(0, 1)", log.standing(0, 1), TentativeLog.APPLIED);
        due.is("the next: standing(0, 2)", log.standing(0, 2), TentativeLog.UNKNOWN);
        for (int number : outside) {
            due.is("standing(0, " + number + ")", log.standing(0, number), TentativeLog.UNKNOWN);
        }
        log.commit(1);
        for (int number : outside) {
            due.is("one committed: standing(0, " + number + ")", log.standing(0, number), TentativeLog.UNKNOWN);
        }
        for (int n = 2; n < ROOM; n++) {
            log.write(0, TentativeLog.SET, 0, 1);
        }
        due.is("full: standing(0, 47)", log.standing(0, 47), TentativeLog.APPLIED);
        for (int number : new int[] {MIN, -1, 48, 49, 64, MAX}) {
            due.is("full: standing(0, " + number + ")", log.standing(0, number), TentativeLog.UNKNOWN);
        }
        log.commit(ROOM);
        due.is("full, committed: standing(0, 47)", log.standing(0, 47), TentativeLog.COMMITTED);
        for (int number : new int[] {MIN, -1, 48, 49, 64, MAX}) {
            due.is("full, committed: standing(0, " + number + ")", log.standing(0, number), TentativeLog.UNKNOWN);
        }
    }

    private static void notInTheSet() {
        TentativeLog log = new TentativeLog(3);
        log.write(0, TentativeLog.ADD, 0, 1);
        log.write(1, TentativeLog.ADD, 0, 1);
        due.is("tentative elsewhere: standing(1, 0)", log.standing(1, 0), TentativeLog.UNKNOWN);
        due.is("tentative elsewhere: standing(0, 1)", log.standing(0, 1), TentativeLog.UNKNOWN);
        log.commit(1);
        due.is("committed elsewhere: standing(1, 0)", log.standing(1, 0), TentativeLog.UNKNOWN);
        log.bring(1, 2);
        due.is("passed on without it: standing(2, 0)", log.standing(2, 0), TentativeLog.UNKNOWN);
        log.bring(0, 2);
        due.is("learned: standing(2, 0)", log.standing(2, 0), TentativeLog.COMMITTED);
        due.is("still not at 1: standing(1, 0)", log.standing(1, 0), TentativeLog.UNKNOWN);
    }

    /** Which are committed goes by the commit order, not by the numbers: 1, 2, 0. */
    private static void committed() {
        TentativeLog log = new TentativeLog(2);
        log.write(1, TentativeLog.ADD, 0, 1);
        log.write(0, TentativeLog.ADD, 0, 1);
        log.write(0, TentativeLog.ADD, 0, 1);
        log.commit(1);
        standings(log, "m is 1, the other write unknown", 0, 0, 1, 2);
        log.bring(1, 0);
        log.bring(0, 1);
        standings(log, "m is 1", 0, 2, 1, 2);
        log.commit(1);
        standings(log, "m is 2: stamp 1 ahead of stamp 2", 0, 1, 1, 2);
        log.commit(1);
        standings(log, "m is 3", 0, 1, 1, 1);
        standings(log, "m is 1 at the other", 1, 2, 1, 2);
        log.bring(0, 1);
        standings(log, "m is 3 at the other", 1, 1, 1, 1);
    }

    private static void standings(TentativeLog log, String when, int replica, int... want) {
        for (int n = 0; n < want.length; n++) {
            due.is(when + ": standing(" + replica + ", " + n + ")", log.standing(replica, n), want[n]);
        }
    }

    private static void committedThoughItFailed() {
        TentativeLog log = new TentativeLog(2);
        log.write(0, TentativeLog.MOVE, 0, 1);
        due.is("standing(0, 0)", log.standing(0, 0), TentativeLog.FAILED);
        log.commit(1);
        due.is("standing(0, 0)", log.standing(0, 0), TentativeLog.COMMITTED);
    }

    private static void outcome() {
        TentativeLog log = new TentativeLog(2);
        log.write(1, TentativeLog.SET, 0, 3);
        log.write(1, TentativeLog.SET, 1, 5);
        log.write(1, TentativeLog.TAKE, 0, 2);
        log.write(1, TentativeLog.TAKE, 0, 2);
        log.write(1, TentativeLog.TAKE, 0, 4);
        standings(log, "its own", 1, 2, 2, 2, 3, 4);
        log.bring(1, 0);
        log.commit(3);
        standings(log, "three committed", 0, 1, 1, 1, 3, 4);
        standings(log, "not heard of", 1, 2, 2, 2, 3, 4);
    }

    /** What replica 0 has committed counts for another's write when that one has heard of it, not before. */
    private static void onItsOwnStableStore() {
        TentativeLog log = new TentativeLog(2);
        log.write(0, TentativeLog.ADD, 1, 4);
        log.write(0, TentativeLog.ADD, 0, 4);
        log.write(1, TentativeLog.TAKE, 0, 4);
        log.commit(1);
        due.is("m is 0 here and 1 at replica 0: standing(1, 2)", log.standing(1, 2), TentativeLog.FAILED);
        log.bring(0, 1);
        log.commit(1);
        due.is("m is 1 here and 2 at replica 0: standing(1, 2)", log.standing(1, 2), TentativeLog.MERGED);
        log.bring(0, 1);
        due.is("m is 2 at both: standing(1, 2)", log.standing(1, 2), TentativeLog.APPLIED);
    }

    /** The same write stands otherwise where other writes are known. */
    private static void itsOwnViewOfTheOrder() {
        TentativeLog log = new TentativeLog(3);
        log.write(0, TentativeLog.CLAIM, 7, 4);
        log.write(1, TentativeLog.CLAIM, 7, 5);
        log.write(2, TentativeLog.CLAIM, 7, 6);
        log.bring(1, 2);
        standings(log, "alone", 1, 0, 2, 0);
        standings(log, "with 1", 2, 0, 2, 3);
        log.bring(0, 2);
        standings(log, "with both", 2, 2, 3, 3);
        due.store("with both", log, 2, 5, 6, 0, 0, 0, 0, 0, 4);
        standings(log, "alone still", 1, 0, 2, 0);
    }
}
