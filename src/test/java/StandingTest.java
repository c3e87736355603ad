/** Promise 10: how a write stands at each replica. */
public final class StandingTest {
    private static final Due due = new Due();

    public static void main(String[] args) {
        wrongInputs();
        everyStanding();
        itsOwnViewOfTheOrder();
        committedThoughItFailed();
        due.end();
    }

    private static void wrongInputs() {
        TentativeLog log = new TentativeLog(3);
        log.write(0, TentativeLog.SET, 0, 1);
        for (int bad : new int[] {Integer.MIN_VALUE, -1, 3, 4, Integer.MAX_VALUE}) {
            due.is("standing(" + bad + ", 0)", log.standing(bad, 0), TentativeLog.BAD_REPLICA);
            due.is("standing(" + bad + ", -1)", log.standing(bad, -1), TentativeLog.BAD_REPLICA);
        }
        for (int bad : new int[] {Integer.MIN_VALUE, -64, -1, 1, 47, 48, 63, 64, 65, Integer.MAX_VALUE}) {
            due.is("standing(0, " + bad + ")", log.standing(0, bad), TentativeLog.UNKNOWN);
        }
        log.commit(1);
        due.is("committed: standing(0, 0)", log.standing(0, 0), TentativeLog.COMMITTED);
        due.is("committed: standing(0, 64)", log.standing(0, 64), TentativeLog.UNKNOWN);
        due.is("committed elsewhere: standing(1, 0)", log.standing(1, 0), TentativeLog.UNKNOWN);
    }

    private static void everyStanding() {
        TentativeLog log = new TentativeLog(2);
        log.write(1, TentativeLog.SET, 0, 3);
        log.write(1, TentativeLog.SET, 1, 5);
        log.write(1, TentativeLog.TAKE, 0, 2);
        log.write(1, TentativeLog.TAKE, 0, 2);
        log.write(1, TentativeLog.TAKE, 0, 4);
        int[] want = {TentativeLog.APPLIED, TentativeLog.APPLIED, TentativeLog.APPLIED, TentativeLog.MERGED,
            TentativeLog.FAILED};
        for (int n = 0; n < 5; n++) {
            due.is("standing(1, " + n + ")", log.standing(1, n), want[n]);
            due.is("standing(0, " + n + ")", log.standing(0, n), TentativeLog.UNKNOWN);
        }
        log.bring(1, 0);
        log.commit(3);
        for (int n = 0; n < 5; n++) {
            due.is("three committed: standing(0, " + n + ")", log.standing(0, n), n < 3 ? 1 : want[n]);
            due.is("not heard: standing(1, " + n + ")", log.standing(1, n), want[n]);
        }
    }

    /** The same write stands otherwise where other writes are known. */
    private static void itsOwnViewOfTheOrder() {
        TentativeLog log = new TentativeLog(3);
        log.write(0, TentativeLog.CLAIM, 7, 4);
        log.write(1, TentativeLog.CLAIM, 7, 5);
        log.write(2, TentativeLog.CLAIM, 7, 6);
        log.bring(1, 2);
        due.is("standing(1, 1)", log.standing(1, 1), TentativeLog.APPLIED);
        due.is("standing(2, 1)", log.standing(2, 1), TentativeLog.APPLIED);
        due.is("standing(2, 2)", log.standing(2, 2), TentativeLog.MERGED);
        log.bring(0, 2);
        due.is("standing(2, 0)", log.standing(2, 0), TentativeLog.APPLIED);
        due.is("standing(2, 1)", log.standing(2, 1), TentativeLog.MERGED);
        due.is("standing(2, 2)", log.standing(2, 2), TentativeLog.MERGED);
        due.store("all three", log, 2, 5, 6, 0, 0, 0, 0, 0, 4);
        due.is("standing(1, 1) stays", log.standing(1, 1), TentativeLog.APPLIED);
    }

    private static void committedThoughItFailed() {
        TentativeLog log = new TentativeLog(2);
        log.write(0, TentativeLog.MOVE, 0, 1);
        due.is("standing(0, 0)", log.standing(0, 0), TentativeLog.FAILED);
        log.commit(1);
        due.is("standing(0, 0)", log.standing(0, 0), TentativeLog.COMMITTED);
    }
}
