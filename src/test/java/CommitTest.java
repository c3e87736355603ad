/** Promise 4: replica 0 commits its first tentative writes, as many as are asked and there. */
public final class CommitTest {
    private static final Due due = new Due();

    public static void main(String[] args) {
        counts();
        onlyWhatReplicaZeroKnows();
        inOrderOfStampAndOrigin();
        lateWritesComeBehind();
        committedOutcomeMayDiffer();
        othersHearOfItByBring();
        due.end();
    }

    private static void counts() {
        TentativeLog log = new TentativeLog(2);
        due.is("nothing there: commit(5)", log.commit(5), 0);
        for (int n = 0; n < 6; n++) {
            log.write(0, TentativeLog.ADD, 0, 1);
        }
        due.is("commit(0)", log.commit(0), 0);
        due.is("commit(-1)", log.commit(-1), 0);
        due.is("commit(MIN)", log.commit(Integer.MIN_VALUE), 0);
        due.is("committed(0)", log.committed(0), 0);
        due.is("commit(1)", log.commit(1), 1);
        due.is("committed(0)", log.committed(0), 1);
        due.is("commit(3)", log.commit(3), 3);
        due.is("stable(0, 0)", log.stable(0, 0), 4);
        due.is("cell(0, 0)", log.cell(0, 0), 6);
        due.is("commit(MAX)", log.commit(Integer.MAX_VALUE), 2);
        due.is("committed(0)", log.committed(0), 6);
        due.is("stable(0, 0)", log.stable(0, 0), 6);
        due.is("none left: commit(1)", log.commit(1), 0);
        due.is("known(0) stays", log.known(0), 6);
    }

    private static void onlyWhatReplicaZeroKnows() {
        TentativeLog log = new TentativeLog(2);
        log.write(1, TentativeLog.ADD, 0, 1);
        due.is("commit(9)", log.commit(9), 0);
        due.is("committed(1)", log.committed(1), 0);
        log.bring(1, 0);
        due.is("commit(9)", log.commit(9), 1);
        due.is("committed(0)", log.committed(0), 1);
        due.is("committed(1)", log.committed(1), 0);
    }

    private static void inOrderOfStampAndOrigin() {
        TentativeLog log = new TentativeLog(3);
        log.write(2, TentativeLog.SET, 0, 21);
        log.write(2, TentativeLog.SET, 0, 22);
        log.write(1, TentativeLog.SET, 0, 11);
        log.write(1, TentativeLog.SET, 0, 12);
        log.write(0, TentativeLog.SET, 0, 1);
        log.bring(2, 0);
        log.bring(1, 0);
        for (int value : new int[] {1, 11, 21, 12, 22}) {
            due.is("commit(1)", log.commit(1), 1);
            due.is("stable(0, 0)", log.stable(0, 0), value);
        }
    }

    private static void lateWritesComeBehind() {
        TentativeLog log = new TentativeLog(2);
        log.write(1, TentativeLog.SET, 0, 7);
        log.write(0, TentativeLog.SET, 0, 1);
        log.write(0, TentativeLog.SET, 0, 2);
        log.commit(2);
        log.bring(1, 0);
        due.is("a tentative write runs behind all committed ones: cell(0, 0)", log.cell(0, 0), 7);
        due.is("standing(0, 0)", log.standing(0, 0), TentativeLog.APPLIED);
        log.commit(1);
        due.is("stable(0, 0)", log.stable(0, 0), 7);
        log.bring(0, 1);
        due.is("stable(1, 0)", log.stable(1, 0), 7);
    }

    private static void committedOutcomeMayDiffer() {
        TentativeLog log = new TentativeLog(2);
        log.write(1, TentativeLog.CLAIM, 2, 5);
        due.is("alone: cell(1, 2)", log.cell(1, 2), 5);
        log.write(0, TentativeLog.CLAIM, 2, 6);
        log.commit(1);
        log.bring(0, 1);
        due.is("behind a committed claim: cell(1, 2)", log.cell(1, 2), 6);
        due.is("behind a committed claim: cell(1, 3)", log.cell(1, 3), 5);
        due.is("behind a committed claim: standing(1, 0)", log.standing(1, 0), TentativeLog.MERGED);
    }

    private static void othersHearOfItByBring() {
        TentativeLog log = new TentativeLog(2);
        log.write(0, TentativeLog.ADD, 0, 1);
        log.bring(0, 1);
        log.commit(1);
        due.is("not heard: committed(1)", log.committed(1), 0);
        due.is("not heard: stable(1, 0)", log.stable(1, 0), 0);
        due.is("not heard: standing(1, 0)", log.standing(1, 0), TentativeLog.APPLIED);
        due.is("bring(0, 1)", log.bring(0, 1), 0);
        due.is("heard: committed(1)", log.committed(1), 1);
        due.is("heard: stable(1, 0)", log.stable(1, 0), 1);
        due.is("heard: cell(1, 0)", log.cell(1, 0), 1);
        due.is("heard: standing(1, 0)", log.standing(1, 0), TentativeLog.COMMITTED);
    }
}
