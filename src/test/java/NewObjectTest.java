/** Promise 1: the count of replicas is clamped, there are no writes, and every clock is 0. */
public final class NewObjectTest {
    private static final int MIN = Integer.MIN_VALUE;
    private static final int MAX = Integer.MAX_VALUE;
    private static final Due due = new Due();

    public static void main(String[] args) {
        due.under("replicas is clamped into 2 to 4", NewObjectTest::inside);
        due.under("below 2 becomes 2", NewObjectTest::below);
        due.under("above 4 becomes 4", NewObjectTest::above);
        due.under("No writes", NewObjectTest::noWrites);
        due.under("every replica's clock is 0", NewObjectTest::clocksAreZero);
        due.under("A replica is good below if it lies in 0 to replicas - 1", NewObjectTest::good);
        due.under("A new object", NewObjectTest::objectsAreApart);
        due.end();
    }

    private static void inside() {
        clamped(2, 2);
        clamped(3, 3);
        clamped(4, 4);
    }

    private static void below() {
        for (int asked : new int[] {1, 0, -1, -2, -3, -4, MIN + 1, MIN}) {
            clamped(asked, 2);
        }
    }

    private static void above() {
        for (int asked : new int[] {5, 6, 7, 8, 64, MAX - 1, MAX}) {
            clamped(asked, 4);
        }
    }

    private static void clamped(int asked, int got) {
        TentativeLog log = new TentativeLog(asked);
        for (int r = 0; r < got; r++) {
            due.is("new(" + asked + ").known(" + r + ")", log.known(r), 0);
        }
        due.is("new(" + asked + ").known(" + got + ")", log.known(got), TentativeLog.BAD_REPLICA);
        due.is("new(" + asked + ").known(-1)", log.known(-1), TentativeLog.BAD_REPLICA);
    }

    private static void noWrites() {
        TentativeLog log = new TentativeLog(4);
        for (int r = 0; r < 4; r++) {
            due.is("new: known(" + r + ")", log.known(r), 0);
            due.is("new: committed(" + r + ")", log.committed(r), 0);
            due.is("new: standing(" + r + ", 0)", log.standing(r, 0), TentativeLog.UNKNOWN);
            due.is("new: bring(" + r + ", " + (r + 1 & 3) + ")", log.bring(r, r + 1 & 3), 0);
            due.is("new: trim(" + r + ", 1)", log.trim(r, 1), 0);
        }
        due.is("new: commit(1)", log.commit(1), 0);
        due.is("new: first number", log.write(3, TentativeLog.SET, 0, 1), 0);
    }

    /** Clocks that are equal at the start give equal stamps, and then the origin alone decides. */
    private static void clocksAreZero() {
        due.clocks("new", () -> new TentativeLog(4), 0, 0, 0);
        for (int a = 0; a < 4; a++) {
            for (int b = a + 1; b < 4; b++) {
                TentativeLog log = new TentativeLog(4);
                log.write(b, TentativeLog.SET, 0, 2);
                log.write(a, TentativeLog.SET, 0, 1);
                log.bring(a, b);
                due.is("first writes of " + a + " and " + b + ": cell(" + b + ", 0)", log.cell(b, 0), 2);
            }
        }
        TentativeLog log = new TentativeLog(2);
        log.write(1, TentativeLog.SET, 0, 1);
        log.write(0, TentativeLog.ADD, 1, 0);
        log.write(0, TentativeLog.SET, 0, 2);
        log.bring(0, 1);
        due.is("stamp 2 of origin 0 behind stamp 1 of origin 1: cell(1, 0)", log.cell(1, 0), 2);
    }

    private static void good() {
        for (int replicas = 2; replicas <= 4; replicas++) {
            for (int r = 0; r < replicas; r++) {
                goodEverywhere(replicas, r);
            }
            for (int r : new int[] {MIN, -5, -1, replicas, replicas + 1, 8, MAX}) {
                badEverywhere(replicas, r);
            }
        }
    }

    private static void goodEverywhere(int replicas, int r) {
        TentativeLog log = new TentativeLog(replicas);
        int other = r == 0 ? 1 : 0;
        String of = " of " + replicas;
        due.is("write(" + r + ", ..)" + of, log.write(r, TentativeLog.SET, 0, 5), 0);
        due.is("cell(" + r + ", 0)" + of, log.cell(r, 0), 5);
        due.is("known(" + r + ")" + of, log.known(r), 1);
        due.is("standing(" + r + ", 0)" + of, log.standing(r, 0), TentativeLog.APPLIED);
        due.is("bring(" + r + ", " + other + ")" + of, log.bring(r, other), 1);
        due.is("bring(" + other + ", " + r + ")" + of, log.bring(other, r), 0);
        log.commit(1);
        log.bring(0, r);
        due.is("committed(" + r + ")" + of, log.committed(r), 1);
        due.is("stable(" + r + ", 0)" + of, log.stable(r, 0), 5);
        due.is("trim(" + r + ", 1)" + of, log.trim(r, 1), 1);
    }

    private static void badEverywhere(int replicas, int r) {
        TentativeLog log = new TentativeLog(replicas);
        for (int good = 0; good < replicas; good++) {
            log.write(good, TentativeLog.SET, 0, 5);
        }
        String of = " of " + replicas;
        due.is("write(" + r + ", ..)" + of, log.write(r, 0, 0, 0), TentativeLog.BAD_REPLICA);
        due.is("bring(" + r + ", 0)" + of, log.bring(r, 0), TentativeLog.BAD_REPLICA);
        due.is("bring(0, " + r + ")" + of, log.bring(0, r), TentativeLog.BAD_REPLICA);
        due.is("trim(" + r + ", 0)" + of, log.trim(r, 0), TentativeLog.BAD_REPLICA);
        due.is("cell(" + r + ", 0)" + of, log.cell(r, 0), 0);
        due.is("stable(" + r + ", 0)" + of, log.stable(r, 0), 0);
        due.is("known(" + r + ")" + of, log.known(r), TentativeLog.BAD_REPLICA);
        due.is("committed(" + r + ")" + of, log.committed(r), TentativeLog.BAD_REPLICA);
        due.is("standing(" + r + ", 0)" + of, log.standing(r, 0), TentativeLog.BAD_REPLICA);
    }

    private static void objectsAreApart() {
        TentativeLog first = new TentativeLog(2);
        TentativeLog second = new TentativeLog(2);
        first.write(0, TentativeLog.SET, 0, 1);
        first.commit(1);
        due.is("another object was used: known(0)", second.known(0), 0);
        due.is("another object was used: committed(0)", second.committed(0), 0);
        due.is("another object was used: cell(0, 0)", second.cell(0, 0), 0);
        due.is("another object was used: stable(0, 0)", second.stable(0, 0), 0);
        due.is("another object was used: standing(0, 0)", second.standing(0, 0), TentativeLog.UNKNOWN);
        due.is("another object was used: first number", second.write(0, TentativeLog.SET, 0, 2), 0);
        due.is("the first object's cell(0, 0)", first.cell(0, 0), 1);
    }
}
