/** Promise 7: a cell of the stable store, which only committed writes have made. */
public final class StableTest {
    private static final Due due = new Due();

    public static void main(String[] args) {
        TentativeLog log = new TentativeLog(2);
        for (int c = 0; c < 8; c++) {
            log.write(0, TentativeLog.SET, c, 20 + c);
        }
        due.stable("nothing committed", log, 0, 0, 0, 0, 0, 0, 0, 0, 0);
        log.commit(3);
        due.stable("three committed", log, 0, 20, 21, 22, 0, 0, 0, 0, 0);
        log.bring(0, 1);
        log.commit(5);
        due.stable("all committed", log, 0, 20, 21, 22, 23, 24, 25, 26, 27);
        due.stable("the other knows of three", log, 1, 20, 21, 22, 0, 0, 0, 0, 0);
        wrongInputs(log);
        inCommitOrder();
        due.end();
    }

    private static void wrongInputs(TentativeLog log) {
        for (int bad : new int[] {Integer.MIN_VALUE, -1, 2, 3, 4, Integer.MAX_VALUE}) {
            due.is("stable(" + bad + ", 0)", log.stable(bad, 0), 0);
        }
        for (int bad : new int[] {Integer.MIN_VALUE, -1, 8, 9, Integer.MAX_VALUE}) {
            due.is("stable(0, " + bad + ")", log.stable(0, bad), 0);
            due.is("stable(2, " + bad + ")", log.stable(2, bad), 0);
        }
    }

    /** The commit order counts, not the stamps: the write of stamp 1 was committed last. */
    private static void inCommitOrder() {
        TentativeLog log = new TentativeLog(2);
        log.write(1, TentativeLog.TAKE, 0, 4);
        log.write(0, TentativeLog.SET, 0, 3);
        log.write(0, TentativeLog.ADD, 0, 2);
        log.commit(2);
        log.bring(1, 0);
        due.is("stable(0, 0)", log.stable(0, 0), 5);
        log.commit(1);
        due.is("stable(0, 0)", log.stable(0, 0), 1);
        log.bring(0, 1);
        due.is("stable(1, 0)", log.stable(1, 0), 1);
    }
}
