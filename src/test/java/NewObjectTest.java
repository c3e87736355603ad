/** Promise 1: the count of replicas is clamped, there are no writes, and every clock is 0. */
public final class NewObjectTest {
    private static final Due due = new Due();

    public static void main(String[] args) {
        clamped(Integer.MIN_VALUE, 2);
        clamped(-1, 2);
        clamped(0, 2);
        clamped(1, 2);
        clamped(2, 2);
        clamped(3, 3);
        clamped(4, 4);
        clamped(5, 4);
        clamped(Integer.MAX_VALUE, 4);
        empty();
        clocksAreZero();
        objectsAreApart();
        due.end();
    }

    private static void clamped(int asked, int got) {
        TentativeLog log = new TentativeLog(asked);
        for (int r = 0; r < got; r++) {
            due.is("new(" + asked + ").known(" + r + ")", log.known(r), 0);
        }
        due.is("new(" + asked + ").known(" + got + ")", log.known(got), TentativeLog.BAD_REPLICA);
        due.is("new(" + asked + ").known(-1)", log.known(-1), TentativeLog.BAD_REPLICA);
    }

    private static void empty() {
        TentativeLog log = new TentativeLog(4);
        for (int r = 0; r < 4; r++) {
            due.store("new", log, r, 0, 0, 0, 0, 0, 0, 0, 0);
            due.stable("new", log, r, 0, 0, 0, 0, 0, 0, 0, 0);
            due.is("new: committed(" + r + ")", log.committed(r), 0);
            due.is("new: standing(" + r + ", 0)", log.standing(r, 0), TentativeLog.UNKNOWN);
        }
        due.is("new: commit(1)", log.commit(1), 0);
        due.is("new: first number", log.write(0, TentativeLog.SET, 0, 1), 0);
    }

    /** With equal clocks at the start, first writes tie on the stamp and the origin decides. */
    private static void clocksAreZero() {
        TentativeLog log = new TentativeLog(4);
        for (int r = 3; r >= 0; r--) {
            log.write(r, TentativeLog.SET, 0, 10 + r);
        }
        for (int r = 1; r < 4; r++) {
            log.bring(r, 0);
        }
        due.is("equal stamps: cell(0, 0)", log.cell(0, 0), 13);
        log.write(0, TentativeLog.SET, 0, 20);
        due.is("stamp 2 behind stamp 1: cell(0, 0)", log.cell(0, 0), 20);
    }

    private static void objectsAreApart() {
        TentativeLog first = new TentativeLog(2);
        TentativeLog second = new TentativeLog(2);
        first.write(0, TentativeLog.SET, 0, 1);
        due.is("another object's cell(0, 0)", second.cell(0, 0), 0);
        due.is("another object's known(0)", second.known(0), 0);
    }
}
