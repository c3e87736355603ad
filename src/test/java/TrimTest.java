/** Promise 5: trim answers the greatest adjusted n of its replica and changes no other answer. */
public final class TrimTest {
    private static final int MIN = Integer.MIN_VALUE;
    private static final int MAX = Integer.MAX_VALUE;
    private static final int ROOM = 48;
    private static final Due due = new Due();

    public static void main(String[] args) {
        due.under("n below 0 counts as 0", TrimTest::belowZero);
        due.under("above its m as its m", TrimTest::aboveM);
        due.under("above its m as its m", TrimTest::aboveMOfNow);
        due.under("This changes nothing that any other call answers, now or later.", TrimTest::changesNothingNow);
        due.under("This changes nothing that any other call answers, now or later.", TrimTest::changesNothingLater);
        due.under("This changes nothing that any other call answers, now or later.", TrimTest::makesNoRoom);
        due.under("replica not good: BAD_REPLICA", TrimTest::badReplica);
        due.under("else answers the greatest n (after this adjustment) that was ever named for this replica.",
                TrimTest::greatest);
        due.under("ever named for this replica", TrimTest::eachReplicaItsOwn);
        due.end();
    }

    private static TentativeLog withCommits(int writes, int commits) {
        TentativeLog log = new TentativeLog(3);
        for (int n = 0; n < writes; n++) {
            log.write(0, TentativeLog.ADD, n & 7, n + 1);
        }
        log.commit(commits);
        return log;
    }

    private static void belowZero() {
        for (int n : new int[] {-1, -2, -ROOM, MIN + 1, MIN}) {
            TentativeLog log = withCommits(9, 6);
            due.is("trim(0, " + n + ")", log.trim(0, n), 0);
            due.is("trim(0, 2)", log.trim(0, 2), 2);
            due.is("behind 2: trim(0, " + n + ")", log.trim(0, n), 2);
            due.is("none committed: trim(1, " + n + ")", log.trim(1, n), 0);
        }
        due.is("trim(0, 0)", withCommits(9, 6).trim(0, 0), 0);
    }

    private static void aboveM() {
        for (int n : new int[] {7, 8, 9, 10, ROOM, MAX - 1, MAX}) {
            due.is("m is 6: trim(0, " + n + ")", withCommits(9, 6).trim(0, n), 6);
            due.is("m is 0: trim(0, " + n + ")", withCommits(9, 0).trim(0, n), 0);
        }
        due.is("m is 6: trim(0, 5)", withCommits(9, 6).trim(0, 5), 5);
        due.is("m is 6: trim(0, 6)", withCommits(9, 6).trim(0, 6), 6);
        due.is("m is 1: trim(0, 1)", withCommits(9, 1).trim(0, 1), 1);
        due.is("m is 48: trim(0, 47)", withCommits(ROOM, ROOM).trim(0, ROOM - 1), ROOM - 1);
        due.is("m is 48: trim(0, 48)", withCommits(ROOM, ROOM).trim(0, ROOM), ROOM);
        due.is("m is 48: trim(0, 49)", withCommits(ROOM, ROOM).trim(0, ROOM + 1), ROOM);
        due.is("no write: trim(0, 1)", new TentativeLog(2).trim(0, 1), 0);
        TentativeLog log = withCommits(9, 2);
        log.bring(0, 1);
        log.commit(4);
        due.is("m is 2 here and 6 at replica 0: trim(1, 3)", log.trim(1, 3), 2);
        due.is("m is 0 here and 6 at replica 0: trim(2, 3)", log.trim(2, 3), 0);
    }

    /** What was named above m counts as the m of that time, not as a later one. */
    private static void aboveMOfNow() {
        TentativeLog log = withCommits(9, 6);
        due.is("trim(0, 8)", log.trim(0, 8), 6);
        log.commit(3);
        due.is("trim(0, 0)", log.trim(0, 0), 6);
        due.is("trim(0, 8)", log.trim(0, 8), 8);
        due.is("trim(0, 10)", log.trim(0, 10), 9);
    }

    private static void changesNothingNow() {
        for (int n : new int[] {MIN, -1, 0, 1, 3, 4, 5, 6, 9, MAX}) {
            TentativeLog log = mixed();
            for (int r = 0; r < 3; r++) {
                log.trim(r, n);
            }
            due.same("trim(.., " + n + ")", log, mixed(), 3);
            due.clocks("trim(.., " + n + ")", () -> trimmed(n), 3, 1, 0);
        }
    }

    private static TentativeLog trimmed(int n) {
        TentativeLog log = new TentativeLog(4);
        for (int r : new int[] {0, 0, 1, 0}) {
            log.write(r, TentativeLog.ADD, 3, 1);
        }
        log.commit(2);
        for (int r = 0; r < 3; r++) {
            log.trim(r, n);
        }
        return log;
    }

    /** Nine writes of all kinds; replica 0 has committed five and replica 1 has heard of three. */
    private static TentativeLog mixed() {
        TentativeLog log = new TentativeLog(3);
        for (int n = 0; n < 9; n++) {
            log.write(n % 3, n % 6, n & 3, 5 - n);
        }
        log.bring(1, 0);
        log.bring(2, 0);
        log.commit(3);
        log.bring(0, 1);
        log.commit(2);
        return log;
    }

    /** The twin goes the same way untrimmed; everything that can follow a trim follows it. */
    private static void changesNothingLater() {
        TentativeLog log = mixed();
        TentativeLog twin = mixed();
        log.trim(0, 5);
        log.trim(1, 9);
        due.is("bring(0, 2)", log.bring(0, 2), twin.bring(0, 2));
        due.is("bring(1, 2)", log.bring(1, 2), twin.bring(1, 2));
        log.trim(2, 4);
        due.is("write(1, ..)", log.write(1, 2, 3, 1), twin.write(1, 2, 3, 1));
        due.is("write(2, ..)", log.write(2, 4, 3, 8), twin.write(2, 4, 3, 8));
        due.is("bring(2, 1)", log.bring(2, 1), twin.bring(2, 1));
        due.is("bring(1, 0)", log.bring(1, 0), twin.bring(1, 0));
        due.is("commit(4)", log.commit(4), twin.commit(4));
        log.trim(0, 9);
        due.is("bring(0, 1)", log.bring(0, 1), twin.bring(0, 1));
        due.same("trimmed on the way", log, twin, 3);
        due.is("commit(99)", log.commit(99), twin.commit(99));
        due.is("bring(0, 2)", log.bring(0, 2), twin.bring(0, 2));
        due.same("trimmed on the way, all committed", log, twin, 3);
    }

    private static void makesNoRoom() {
        TentativeLog log = withCommits(ROOM, ROOM);
        for (int r = 0; r < 3; r++) {
            log.bring(0, r);
            due.is("trim(" + r + ", 48)", log.trim(r, ROOM), ROOM);
        }
        due.is("write(0, ..)", log.write(0, 0, 0, 0), TentativeLog.LOG_FULL);
        due.is("known(2)", log.known(2), ROOM);
        due.is("committed(2)", log.committed(2), ROOM);
        due.is("standing(2, 0)", log.standing(2, 0), TentativeLog.COMMITTED);
        TentativeLog half = withCommits(24, 24);
        half.trim(0, 24);
        due.is("numbers go on", half.write(0, 0, 0, 0), 24);
    }

    private static void badReplica() {
        for (int bad : new int[] {MIN, -1, 3, 4, MAX}) {
            TentativeLog log = withCommits(3, 3);
            for (int n : new int[] {MIN, -1, 0, 1, 3, 4, MAX}) {
                due.is("trim(" + bad + ", " + n + ")", log.trim(bad, n), TentativeLog.BAD_REPLICA);
            }
            due.is("nothing was named for it: trim(0, 0)", log.trim(0, 0), 0);
        }
    }

    private static void greatest() {
        TentativeLog log = withCommits(9, 6);
        due.is("trim(0, 0)", log.trim(0, 0), 0);
        due.is("trim(0, 2)", log.trim(0, 2), 2);
        due.is("smaller: trim(0, 1)", log.trim(0, 1), 2);
        due.is("equal: trim(0, 2)", log.trim(0, 2), 2);
        due.is("0: trim(0, 0)", log.trim(0, 0), 2);
        due.is("below 0: trim(0, -7)", log.trim(0, -7), 2);
        due.is("greater: trim(0, 5)", log.trim(0, 5), 5);
        due.is("above m: trim(0, 7)", log.trim(0, 7), 6);
        due.is("behind it: trim(0, 3)", log.trim(0, 3), 6);
    }

    private static void eachReplicaItsOwn() {
        TentativeLog log = withCommits(5, 2);
        log.bring(0, 1);
        log.commit(2);
        due.is("trim(0, 9)", log.trim(0, 9), 4);
        due.is("its own m: trim(1, 9)", log.trim(1, 9), 2);
        due.is("its own m: trim(2, 9)", log.trim(2, 9), 0);
        log.bring(0, 1);
        log.bring(0, 2);
        due.is("bring carries no trim: trim(1, 0)", log.trim(1, 0), 2);
        due.is("bring carries no trim: trim(2, 0)", log.trim(2, 0), 0);
        due.is("trim(2, 3)", log.trim(2, 3), 3);
    }
}
