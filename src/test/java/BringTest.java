/** Promise 3: bring joins sets, takes the larger m and the larger clock, and goes one way. */
public final class BringTest {
    private static final Due due = new Due();

    public static void main(String[] args) {
        refusals();
        oneWay();
        largerM();
        largerClock();
        clockDoesNotFall();
        learnsOnlyWhatIsKnown();
        anOlderWriteComesLate();
        due.end();
    }

    private static void refusals() {
        TentativeLog log = new TentativeLog(3);
        log.write(0, TentativeLog.SET, 0, 1);
        for (int bad : new int[] {Integer.MIN_VALUE, -1, 3, 4, Integer.MAX_VALUE}) {
            due.is("bring(" + bad + ", 0)", log.bring(bad, 0), TentativeLog.BAD_REPLICA);
            due.is("bring(0, " + bad + ")", log.bring(0, bad), TentativeLog.BAD_REPLICA);
            due.is("bring(" + bad + ", " + bad + ")", log.bring(bad, bad), TentativeLog.BAD_REPLICA);
        }
        for (int r = 0; r < 3; r++) {
            due.is("bring(" + r + ", " + r + ")", log.bring(r, r), TentativeLog.SAME);
        }
        due.is("refused: known(1)", log.known(1), 0);
        due.is("refused: known(0)", log.known(0), 1);
    }

    private static void oneWay() {
        TentativeLog log = new TentativeLog(3);
        log.write(0, TentativeLog.ADD, 0, 1);
        log.write(1, TentativeLog.ADD, 0, 10);
        log.write(1, TentativeLog.ADD, 0, 100);
        due.is("bring(1, 0)", log.bring(1, 0), 2);
        due.is("known(0)", log.known(0), 3);
        due.is("known(1)", log.known(1), 2);
        due.is("cell(0, 0)", log.cell(0, 0), 111);
        due.is("cell(1, 0)", log.cell(1, 0), 110);
        due.is("bring(1, 0) again", log.bring(1, 0), 0);
        due.is("bring(0, 1) learns the one", log.bring(0, 1), 1);
        due.is("bring(2, 1) learns nothing", log.bring(2, 1), 0);
        due.is("known(1)", log.known(1), 3);
        due.is("bring(1, 2) passes on", log.bring(1, 2), 3);
    }

    private static void largerM() {
        TentativeLog log = new TentativeLog(3);
        log.write(0, TentativeLog.ADD, 0, 1);
        log.write(0, TentativeLog.ADD, 0, 1);
        log.commit(1);
        log.bring(0, 1);
        due.is("committed(1)", log.committed(1), 1);
        log.commit(1);
        log.bring(1, 0);
        due.is("a smaller m does not lower: committed(0)", log.committed(0), 2);
        due.is("committed(1) stays", log.committed(1), 1);
        log.bring(0, 2);
        due.is("committed(2)", log.committed(2), 2);
        due.is("no new write, but a larger m: bring(2, 1)", log.bring(2, 1), 0);
        due.is("committed(1)", log.committed(1), 2);
        due.is("stable(1, 0)", log.stable(1, 0), 2);
    }

    private static void largerClock() {
        TentativeLog log = new TentativeLog(2);
        log.write(0, TentativeLog.SET, 0, 1);
        log.write(0, TentativeLog.SET, 0, 2);
        log.write(0, TentativeLog.SET, 0, 3);
        log.bring(0, 1);
        log.write(1, TentativeLog.SET, 0, 9);
        due.is("stamp 4 behind what was learned: cell(1, 0)", log.cell(1, 0), 9);
        log.write(0, TentativeLog.SET, 0, 4);
        log.bring(1, 0);
        due.is("both have stamp 4, origin 1 is last: cell(0, 0)", log.cell(0, 0), 9);
        log.write(0, TentativeLog.SET, 0, 5);
        due.is("stamp 5: cell(0, 0)", log.cell(0, 0), 5);
    }

    private static void clockDoesNotFall() {
        TentativeLog log = new TentativeLog(2);
        log.write(0, TentativeLog.SET, 0, 1);
        log.write(0, TentativeLog.SET, 0, 2);
        log.bring(1, 0);
        log.write(1, TentativeLog.ADD, 1, 1);
        log.write(1, TentativeLog.SET, 0, 7);
        log.write(0, TentativeLog.SET, 0, 3);
        log.bring(1, 0);
        due.is("stamp 3 behind stamp 2: cell(0, 0)", log.cell(0, 0), 3);
        log.write(1, TentativeLog.SET, 0, 8);
        log.bring(1, 0);
        due.is("the clock of 'from' stayed, stamp 3 of origin 1: cell(0, 0)", log.cell(0, 0), 8);
    }

    private static void learnsOnlyWhatIsKnown() {
        TentativeLog log = new TentativeLog(3);
        log.write(0, TentativeLog.ADD, 0, 1);
        log.bring(0, 1);
        log.write(0, TentativeLog.ADD, 0, 10);
        due.is("bring(1, 2)", log.bring(1, 2), 1);
        due.is("cell(2, 0)", log.cell(2, 0), 1);
        due.is("standing(2, 1)", log.standing(2, 1), TentativeLog.UNKNOWN);
    }

    /** A write that was stamped early runs before the ones already known, and may change them. */
    private static void anOlderWriteComesLate() {
        TentativeLog log = new TentativeLog(2);
        log.write(1, TentativeLog.ADD, 3, 5);
        log.write(0, TentativeLog.ADD, 0, 0);
        log.write(0, TentativeLog.TAKE, 3, 5);
        due.is("before: standing(0, 2)", log.standing(0, 2), TentativeLog.FAILED);
        log.bring(1, 0);
        due.is("after: standing(0, 2)", log.standing(0, 2), TentativeLog.APPLIED);
        due.is("after: cell(0, 3)", log.cell(0, 3), 0);
    }
}
