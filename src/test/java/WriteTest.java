/** Promise 2: the tests of write in their order, the numbers and the stamps. */
public final class WriteTest {
    private static final int MIN = Integer.MIN_VALUE;
    private static final int MAX = Integer.MAX_VALUE;
    private static final Due due = new Due();

    public static void main(String[] args) {
        refusals();
        numbers();
        full();
        refusedLeavesTheClock();
        everyWriteRaisesTheClock();
        dueOrderOfEqualStamps();
        belongsToItsReplicaAlone();
        due.end();
    }

    private static void refusals() {
        TentativeLog log = new TentativeLog(3);
        for (int bad : new int[] {MIN, -1, 3, 4, MAX}) {
            due.is("write(" + bad + ", 9, 9, 0)", log.write(bad, 9, 9, 0), TentativeLog.BAD_REPLICA);
            due.is("write(" + bad + ", 0, 0, 0)", log.write(bad, 0, 0, 0), TentativeLog.BAD_REPLICA);
        }
        for (int bad : new int[] {MIN, -1, 6, MAX}) {
            due.is("write(0, " + bad + ", 9, 0)", log.write(0, bad, 9, 0), TentativeLog.BAD_KIND);
            due.is("write(0, " + bad + ", 0, 0)", log.write(0, bad, 0, 0), TentativeLog.BAD_KIND);
        }
        for (int bad : new int[] {MIN, -1, 8, MAX}) {
            due.is("write(0, 0, " + bad + ", 0)", log.write(0, 0, bad, 0), TentativeLog.BAD_CELL);
        }
        due.is("refused: known(0)", log.known(0), 0);
        due.is("refused: first number", log.write(2, 5, 7, 0), 0);
    }

    private static void numbers() {
        TentativeLog log = new TentativeLog(4);
        for (int n = 0; n < 24; n++) {
            due.is("number " + n, log.write(n & 3, n % 6, n & 7, n), n);
        }
    }

    private static void full() {
        TentativeLog log = new TentativeLog(2);
        for (int n = 0; n < 48; n++) {
            due.is("number " + n, log.write(n / 24, TentativeLog.ADD, 0, 1), n);
        }
        due.is("write 49", log.write(0, TentativeLog.ADD, 0, 1), TentativeLog.LOG_FULL);
        due.is("write 49 at the other", log.write(1, TentativeLog.ADD, 0, 1), TentativeLog.LOG_FULL);
        due.is("full: bad cell first", log.write(0, 0, 8, 1), TentativeLog.BAD_CELL);
        due.is("full: bad kind first", log.write(0, 6, 8, 1), TentativeLog.BAD_KIND);
        due.is("full: bad replica first", log.write(2, 6, 8, 1), TentativeLog.BAD_REPLICA);
        due.is("full: known(0)", log.known(0), 24);
        due.is("full: cell(0, 0)", log.cell(0, 0), 24);
        due.is("full: bring(1, 0)", log.bring(1, 0), 24);
        due.is("full: commit(48)", log.commit(48), 48);
        due.is("full: stable(0, 0)", log.stable(0, 0), 48);
        due.is("committed writes keep their room", log.write(0, TentativeLog.ADD, 0, 1), TentativeLog.LOG_FULL);
        log.trim(0, 48);
        due.is("trimmed writes keep their room", log.write(0, TentativeLog.ADD, 0, 1), TentativeLog.LOG_FULL);
        due.is("full: standing(0, 47)", log.standing(0, 47), TentativeLog.COMMITTED);
        due.is("full: standing(0, 48)", log.standing(0, 48), TentativeLog.UNKNOWN);
    }

    private static void refusedLeavesTheClock() {
        TentativeLog log = new TentativeLog(2);
        log.write(0, 6, 0, 0);
        log.write(0, 0, 8, 0);
        log.write(0, TentativeLog.SET, 0, 5);
        log.write(1, TentativeLog.ADD, 1, 1);
        log.write(1, TentativeLog.SET, 0, 7);
        log.bring(1, 0);
        due.is("refused calls raise no clock: cell(0, 0)", log.cell(0, 0), 7);
    }

    private static void everyWriteRaisesTheClock() {
        TentativeLog log = new TentativeLog(2);
        log.write(1, TentativeLog.SET, 0, 1);
        log.write(1, TentativeLog.SET, 0, 2);
        log.write(1, TentativeLog.SET, 0, 3);
        due.is("its own writes in their order: cell(1, 0)", log.cell(1, 0), 3);
        log.write(0, TentativeLog.SET, 0, 8);
        log.write(0, TentativeLog.SET, 0, 9);
        log.bring(0, 1);
        due.is("stamp 3 behind stamps 1 and 2: cell(1, 0)", log.cell(1, 0), 3);
        log.write(0, TentativeLog.SET, 0, 10);
        log.write(0, TentativeLog.SET, 0, 11);
        log.bring(0, 1);
        due.is("stamp 4 behind stamp 3: cell(1, 0)", log.cell(1, 0), 11);
    }

    private static void dueOrderOfEqualStamps() {
        TentativeLog log = new TentativeLog(4);
        log.write(3, TentativeLog.SET, 0, 3);
        log.write(1, TentativeLog.SET, 0, 1);
        log.write(2, TentativeLog.SET, 0, 2);
        log.bring(3, 1);
        log.bring(2, 1);
        due.is("of equal stamps the smaller origin first: cell(1, 0)", log.cell(1, 0), 3);
        log.bring(1, 0);
        log.commit(2);
        due.is("origin 1, then 2: stable(0, 0)", log.stable(0, 0), 2);
    }

    private static void belongsToItsReplicaAlone() {
        TentativeLog log = new TentativeLog(3);
        log.write(1, TentativeLog.SET, 4, 6);
        due.is("known(1)", log.known(1), 1);
        due.is("known(0)", log.known(0), 0);
        due.is("known(2)", log.known(2), 0);
        due.is("cell(1, 4)", log.cell(1, 4), 6);
        due.is("cell(0, 4)", log.cell(0, 4), 0);
        due.is("stable(1, 4)", log.stable(1, 4), 0);
        due.is("committed(1)", log.committed(1), 0);
        due.is("standing(1, 0)", log.standing(1, 0), TentativeLog.APPLIED);
    }
}
