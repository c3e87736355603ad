/** Promise 5: trim answers the greatest adjusted n of its replica and changes no other answer. */
public final class TrimTest {
    private static final Due due = new Due();

    public static void main(String[] args) {
        wrongReplicas();
        greatestSoFar();
        eachReplicaItsOwn();
        changesNothingElse();
        due.end();
    }

    private static TentativeLog withCommits(int writes, int commits) {
        TentativeLog log = new TentativeLog(3);
        for (int n = 0; n < writes; n++) {
            log.write(0, TentativeLog.ADD, n & 7, n + 1);
        }
        log.commit(commits);
        return log;
    }

    private static void wrongReplicas() {
        TentativeLog log = withCommits(3, 3);
        for (int bad : new int[] {Integer.MIN_VALUE, -1, 3, 4, Integer.MAX_VALUE}) {
            due.is("trim(" + bad + ", 1)", log.trim(bad, 1), TentativeLog.BAD_REPLICA);
            due.is("trim(" + bad + ", -1)", log.trim(bad, -1), TentativeLog.BAD_REPLICA);
        }
    }

    private static void greatestSoFar() {
        TentativeLog log = withCommits(9, 6);
        due.is("trim(0, -1)", log.trim(0, -1), 0);
        due.is("trim(0, MIN)", log.trim(0, Integer.MIN_VALUE), 0);
        due.is("trim(0, 0)", log.trim(0, 0), 0);
        due.is("trim(0, 2)", log.trim(0, 2), 2);
        due.is("trim(0, 1)", log.trim(0, 1), 2);
        due.is("trim(0, -7)", log.trim(0, -7), 2);
        due.is("trim(0, 5)", log.trim(0, 5), 5);
        due.is("trim(0, 7)", log.trim(0, 7), 6);
        due.is("trim(0, MAX)", log.trim(0, Integer.MAX_VALUE), 6);
        log.commit(2);
        due.is("the named 7 counted as 6 then: trim(0, 0)", log.trim(0, 0), 6);
        due.is("trim(0, 7)", log.trim(0, 7), 7);
        due.is("trim(0, 9)", log.trim(0, 9), 8);
    }

    private static void eachReplicaItsOwn() {
        TentativeLog log = withCommits(5, 2);
        log.bring(0, 1);
        log.commit(2);
        due.is("trim(0, 9)", log.trim(0, 9), 4);
        due.is("trim(1, 9)", log.trim(1, 9), 2);
        due.is("trim(2, 9)", log.trim(2, 9), 0);
        log.bring(0, 1);
        log.bring(0, 2);
        due.is("bring carries no trim: trim(1, 0)", log.trim(1, 0), 2);
        due.is("bring carries no trim: trim(2, 0)", log.trim(2, 0), 0);
        due.is("trim(2, 3)", log.trim(2, 3), 3);
    }

    private static void changesNothingElse() {
        TentativeLog log = withCommits(8, 5);
        log.trim(0, 5);
        due.store("trimmed", log, 0, 1, 2, 3, 4, 5, 6, 7, 8);
        due.stable("trimmed", log, 0, 1, 2, 3, 4, 5, 0, 0, 0);
        due.is("trimmed: known(0)", log.known(0), 8);
        due.is("trimmed: committed(0)", log.committed(0), 5);
        due.is("trimmed: standing(0, 0)", log.standing(0, 0), TentativeLog.COMMITTED);
        due.is("trimmed: standing(0, 5)", log.standing(0, 5), TentativeLog.APPLIED);
        due.is("trimmed: bring(0, 1)", log.bring(0, 1), 8);
        due.store("learned from a trimmed one", log, 1, 1, 2, 3, 4, 5, 6, 7, 8);
        due.stable("learned from a trimmed one", log, 1, 1, 2, 3, 4, 5, 0, 0, 0);
        due.is("into a trimmed one: bring(1, 0)", log.bring(1, 0), 0);
        due.is("trimmed: commit(9)", log.commit(9), 3);
        due.stable("trimmed, then committed", log, 0, 1, 2, 3, 4, 5, 6, 7, 8);
    }
}
