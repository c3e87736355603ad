/** Promise 4: replica 0 commits its first tentative writes, as many as are asked and there. */
public final class CommitTest {
    private static final int ROOM = 48;
    private static final Due due = new Due();

    public static void main(String[] args) {
        due.under("Replica 0 commits", CommitTest::onlyWhatReplicaZeroKnows);
        due.under("n times", CommitTest::asManyAsAsked);
        due.under("or until it has no tentative write", CommitTest::untilNoneIsLeft);
        due.under("the write that is the first of its tentative ones in the order of (stamp, origin)",
                CommitTest::inOrderOfStampAndOrigin);
        due.under("is appended to the commit order", CommitTest::appended);
        due.under("and its m goes up by 1", CommitTest::itsMAlone);
        due.under("and its m goes up by 1", CommitTest::noClock);
        due.under("n below 0 counts as 0", CommitTest::belowZero);
        due.under("Answers how many writes were committed by this call.", CommitTest::answers);
        due.under("the other writes of its set are tentative for it", CommitTest::outcomeBehindACommit);
        due.under("Writes are TENTATIVE until replica 0 has committed them.", CommitTest::othersHearOfItByBring);
        due.end();
    }

    private static TentativeLog withWrites(int count) {
        TentativeLog log = new TentativeLog(2);
        for (int n = 0; n < count; n++) {
            log.write(0, TentativeLog.ADD, 0, 1);
        }
        return log;
    }

    private static void onlyWhatReplicaZeroKnows() {
        TentativeLog log = new TentativeLog(2);
        log.write(1, TentativeLog.ADD, 0, 1);
        due.is("commit(9)", log.commit(9), 0);
        due.is("committed(1)", log.committed(1), 0);
        log.bring(1, 0);
        due.is("commit(9)", log.commit(9), 1);
        due.is("committed(0)", log.committed(0), 1);
        due.is("committed(1)", log.committed(1), 0);
    }

    private static void asManyAsAsked() {
        for (int n = 0; n <= 6; n++) {
            TentativeLog log = withWrites(6);
            due.is("commit(" + n + ")", log.commit(n), n);
            due.is("committed(0)", log.committed(0), n);
            due.is("stable(0, 0)", log.stable(0, 0), n);
            due.is("cell(0, 0)", log.cell(0, 0), 6);
            due.is("known(0)", log.known(0), 6);
        }
        TentativeLog log = withWrites(ROOM);
        for (int m = 1; m <= ROOM; m++) {
            due.is("commit(1)", log.commit(1), 1);
            due.is("committed(0)", log.committed(0), m);
        }
    }

    private static void untilNoneIsLeft() {
        TentativeLog log = new TentativeLog(2);
        due.is("no write at all: commit(1)", log.commit(1), 0);
        due.is("no write at all: commit(MAX)", log.commit(Integer.MAX_VALUE), 0);
        for (int n : new int[] {7, 8, ROOM, ROOM + 1, 64, Integer.MAX_VALUE - 1, Integer.MAX_VALUE}) {
            TentativeLog six = withWrites(6);
            due.is("six writes: commit(" + n + ")", six.commit(n), 6);
            due.is("six writes: stable(0, 0)", six.stable(0, 0), 6);
            due.is("none left: commit(1)", six.commit(1), 0);
            due.is("none left: committed(0)", six.committed(0), 6);
        }
        for (int n : new int[] {ROOM, ROOM + 1, Integer.MAX_VALUE}) {
            TentativeLog full = withWrites(ROOM);
            due.is("full: commit(" + n + ")", full.commit(n), ROOM);
            due.is("full: committed(0)", full.committed(0), ROOM);
            due.is("full: commit(" + n + ") again", full.commit(n), 0);
        }
    }

    private static void inOrderOfStampAndOrigin() {
        TentativeLog log = new TentativeLog(3);
        log.write(2, TentativeLog.SET, 0, 21);
        log.write(2, TentativeLog.SET, 0, 22);
        log.write(1, TentativeLog.SET, 0, 11);
        log.write(1, TentativeLog.SET, 0, 12);
        log.write(0, TentativeLog.SET, 0, 1);
        log.bring(2, 0);
        log.bring(1, 0);
        int[] numbers = {4, 2, 0, 3, 1};
        int[] values = {1, 11, 21, 12, 22};
        for (int i = 0; i < 5; i++) {
            due.is("not yet: standing(0, " + numbers[i] + ")", log.standing(0, numbers[i]), TentativeLog.APPLIED);
            due.is("commit(1)", log.commit(1), 1);
            due.is("standing(0, " + numbers[i] + ")", log.standing(0, numbers[i]), TentativeLog.COMMITTED);
            due.is("stable(0, 0)", log.stable(0, 0), values[i]);
        }
    }

    /** A write of a smaller stamp that comes late stands behind what is committed. */
    private static void appended() {
        TentativeLog log = new TentativeLog(2);
        log.write(1, TentativeLog.SET, 0, 7);
        log.write(0, TentativeLog.SET, 0, 1);
        log.write(0, TentativeLog.SET, 0, 2);
        log.commit(2);
        log.bring(1, 0);
        due.is("cell(0, 0)", log.cell(0, 0), 7);
        due.is("standing(0, 0)", log.standing(0, 0), TentativeLog.APPLIED);
        log.commit(1);
        due.is("stable(0, 0)", log.stable(0, 0), 7);
        log.bring(0, 1);
        due.is("stable(1, 0)", log.stable(1, 0), 7);
    }

    private static void itsMAlone() {
        TentativeLog log = new TentativeLog(4);
        for (int n = 0; n < 4; n++) {
            log.write(0, TentativeLog.ADD, 0, 1);
        }
        for (int r = 1; r < 4; r++) {
            log.bring(0, r);
        }
        for (int m = 1; m <= 4; m++) {
            log.commit(1);
            due.is("committed(0)", log.committed(0), m);
            for (int r = 1; r < 4; r++) {
                due.is("committed(" + r + ")", log.committed(r), 0);
                due.is("stable(" + r + ", 0)", log.stable(r, 0), 0);
                due.is("standing(" + r + ", 0)", log.standing(r, 0), TentativeLog.APPLIED);
            }
        }
    }

    private static void noClock() {
        due.clocks("committed", () -> {
            TentativeLog log = new TentativeLog(4);
            for (int r : new int[] {0, 0, 1, 0}) {
                log.write(r, TentativeLog.ADD, 3, 1);
            }
            log.commit(2);
            return log;
        }, 3, 1, 0);
    }

    private static void belowZero() {
        for (int n : new int[] {0, -1, -2, -ROOM, Integer.MIN_VALUE + 1, Integer.MIN_VALUE}) {
            TentativeLog log = withWrites(6);
            due.is("commit(" + n + ")", log.commit(n), 0);
            due.same("commit(" + n + ")", log, withWrites(6), 2);
            due.is("then commit(2)", log.commit(2), 2);
            due.is("then commit(" + n + ")", log.commit(n), 0);
            due.is("then committed(0)", log.committed(0), 2);
        }
    }

    /** Of this call, not of all so far. */
    private static void answers() {
        TentativeLog log = withWrites(6);
        due.is("commit(1)", log.commit(1), 1);
        due.is("commit(3)", log.commit(3), 3);
        due.is("commit(0)", log.commit(0), 0);
        due.is("commit(5)", log.commit(5), 2);
        due.is("commit(5)", log.commit(5), 0);
        log.write(0, TentativeLog.ADD, 0, 1);
        due.is("one more: commit(5)", log.commit(5), 1);
    }

    private static void outcomeBehindACommit() {
        TentativeLog log = new TentativeLog(2);
        log.write(1, TentativeLog.CLAIM, 2, 5);
        due.is("alone: cell(1, 2)", log.cell(1, 2), 5);
        log.write(0, TentativeLog.CLAIM, 2, 6);
        log.commit(1);
        log.bring(0, 1);
        due.is("behind a committed claim: cell(1, 2)", log.cell(1, 2), 6);
        due.is("behind a committed claim: cell(1, 3)", log.cell(1, 3), 5);
        due.is("behind a committed claim: standing(1, 0)", log.standing(1, 0), TentativeLog.MERGED);
    }

    private static void othersHearOfItByBring() {
        TentativeLog log = new TentativeLog(2);
        log.write(0, TentativeLog.ADD, 0, 1);
        log.bring(0, 1);
        log.commit(1);
        due.is("not heard: committed(1)", log.committed(1), 0);
        due.is("not heard: stable(1, 0)", log.stable(1, 0), 0);
        due.is("not heard: standing(1, 0)", log.standing(1, 0), TentativeLog.APPLIED);
        due.is("bring(0, 1)", log.bring(0, 1), 0);
        due.is("heard: committed(1)", log.committed(1), 1);
        due.is("heard: stable(1, 0)", log.stable(1, 0), 1);
        due.is("heard: cell(1, 0)", log.cell(1, 0), 1);
        due.is("heard: standing(1, 0)", log.standing(1, 0), TentativeLog.COMMITTED);
    }
}
