/** Promise 6: a cell of the store, which is the stable store and then the tentative writes. */
public final class CellTest {
    private static final Due due = new Due();

    public static void main(String[] args) {
        TentativeLog log = new TentativeLog(3);
        for (int c = 0; c < 8; c++) {
            log.write(0, TentativeLog.SET, c, 10 + c);
        }
        due.store("tentative", log, 0, 10, 11, 12, 13, 14, 15, 16, 17);
        due.store("unknown to it", log, 1, 0, 0, 0, 0, 0, 0, 0, 0);
        wrongInputs(log);
        log.commit(4);
        due.store("half committed", log, 0, 10, 11, 12, 13, 14, 15, 16, 17);
        wrongInputs(log);
        asksChangeNothing(log);
        stableFirst();
        due.end();
    }

    private static void wrongInputs(TentativeLog log) {
        for (int bad : new int[] {Integer.MIN_VALUE, -1, 3, 4, Integer.MAX_VALUE}) {
            due.is("cell(" + bad + ", 0)", log.cell(bad, 0), 0);
        }
        for (int bad : new int[] {Integer.MIN_VALUE, -1, 8, 9, Integer.MAX_VALUE}) {
            due.is("cell(0, " + bad + ")", log.cell(0, bad), 0);
            due.is("cell(3, " + bad + ")", log.cell(3, bad), 0);
        }
    }

    private static void asksChangeNothing(TentativeLog log) {
        for (int time = 0; time < 3; time++) {
            due.is("cell(0, 5)", log.cell(0, 5), 15);
            due.is("stable(0, 5)", log.stable(0, 5), 0);
            due.is("cell(1, 5)", log.cell(1, 5), 0);
            due.is("standing(0, 5)", log.standing(0, 5), TentativeLog.APPLIED);
        }
    }

    /** The committed write has the greater stamp, and still runs first. */
    private static void stableFirst() {
        TentativeLog log = new TentativeLog(2);
        log.write(0, TentativeLog.ADD, 1, 0);
        log.write(0, TentativeLog.ADD, 1, 0);
        log.write(0, TentativeLog.SET, 0, 5);
        log.commit(3);
        log.write(1, TentativeLog.SET, 0, 8);
        log.bring(0, 1);
        due.is("cell(1, 0)", log.cell(1, 0), 8);
        due.is("stable(1, 0)", log.stable(1, 0), 5);
        due.is("cell(0, 0)", log.cell(0, 0), 5);
    }
}
