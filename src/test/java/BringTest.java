/** Promise 3: bring joins sets, takes the larger m and the larger clock, and goes one way. */
public final class BringTest {
    private static final int[] BAD_REPLICAS = {Integer.MIN_VALUE, -1, 3, 4, Integer.MAX_VALUE};
    private static final int ROOM = 48;
    private static final Due due = new Due();

    public static void main(String[] args) {
        due.under("from or to not good: BAD_REPLICA", BringTest::badReplica);
        due.under("from == to: SAME", BringTest::same);
        due.under("Tests in this order", BringTest::order);
        due.under("nothing changes then", BringTest::refusedChangesNothing);
        due.under("Brings two replicas together, one way.", BringTest::oneWay);
        due.under("its set becomes the union of both sets", BringTest::union);
        due.under("'to' learns all that 'from' knows", BringTest::onlyWhatFromKnows);
        due.under("its number m the larger of both", BringTest::largerM);
        due.under("its clock the larger of both clocks", BringTest::largerClock);
        due.under("its clock the larger of both clocks", BringTest::clockOfNoWrite);
        due.under("'from' doesn't change.", BringTest::fromStays);
        due.under("Answers how many writes 'to' learned that were not in its set before.", BringTest::learned);
        due.under("ITS STORE is what comes of its stable store by its tentative writes in the order",
                BringTest::anOlderWriteComesLate);
        due.end();
    }

    private static void badReplica() {
        TentativeLog log = new TentativeLog(3);
        log.write(0, TentativeLog.SET, 0, 1);
        for (int bad : BAD_REPLICAS) {
            for (int r = 0; r < 3; r++) {
                due.is("bring(" + bad + ", " + r + ")", log.bring(bad, r), TentativeLog.BAD_REPLICA);
                due.is("bring(" + r + ", " + bad + ")", log.bring(r, bad), TentativeLog.BAD_REPLICA);
            }
        }
        due.is("bring(0, 2)", log.bring(0, 2), 1);
        due.is("bring(2, 0)", log.bring(2, 0), 0);
    }

    private static void same() {
        for (int replicas = 2; replicas <= 4; replicas++) {
            TentativeLog log = new TentativeLog(replicas);
            for (int r = 0; r < replicas; r++) {
                due.is("empty: bring(" + r + ", " + r + ")", log.bring(r, r), TentativeLog.SAME);
                log.write(r, TentativeLog.SET, 0, 1);
                due.is("bring(" + r + ", " + r + ")", log.bring(r, r), TentativeLog.SAME);
            }
        }
    }

    private static void order() {
        TentativeLog log = new TentativeLog(3);
        for (int bad : BAD_REPLICAS) {
            due.is("bring(" + bad + ", " + bad + ")", log.bring(bad, bad), TentativeLog.BAD_REPLICA);
            due.is("bring(" + bad + ", 5)", log.bring(bad, 5), TentativeLog.BAD_REPLICA);
        }
    }

    private static void refusedChangesNothing() {
        TentativeLog log = new TentativeLog(3);
        TentativeLog twin = new TentativeLog(3);
        for (int n = 0; n < 6; n++) {
            int r = n * n % 3;
            refuse(log);
            due.is("number", log.write(r, n, n, 4), twin.write(r, n, n, 4));
            refuse(log);
            due.is("bring", log.bring(r, 2 - r), twin.bring(r, 2 - r));
        }
        due.is("commit(3)", log.commit(3), twin.commit(3));
        refuse(log);
        due.same("refused calls among them", log, twin, 3);
        due.clocks("refused calls on new clocks", () -> {
            TentativeLog used = new TentativeLog(4);
            refuse(used);
            return used;
        }, 0, 0, 0);
        due.clocks("refused calls between writes", () -> {
            TentativeLog used = withClocks(3, 1, 2);
            refuse(used);
            return used;
        }, 3, 1, 2);
    }

    /** Four replicas, of which three have taken so many writes. */
    private static TentativeLog withClocks(int... counts) {
        TentativeLog log = new TentativeLog(4);
        for (int r = 0; r < 3; r++) {
            for (int n = 0; n < counts[r]; n++) {
                log.write(r, TentativeLog.ADD, 3, 1);
            }
        }
        return log;
    }

    private static void refuse(TentativeLog log) {
        for (int r = 0; r < 3; r++) {
            log.bring(r, r);
            log.bring(r, 4);
            log.bring(4, r);
            log.bring(r, -1);
            log.bring(-1, r);
        }
    }

    private static void oneWay() {
        TentativeLog log = new TentativeLog(3);
        log.write(0, TentativeLog.ADD, 0, 1);
        log.write(1, TentativeLog.ADD, 0, 10);
        log.bring(1, 0);
        due.is("cell(0, 0)", log.cell(0, 0), 11);
        due.is("cell(1, 0)", log.cell(1, 0), 10);
        due.is("known(0)", log.known(0), 2);
        due.is("known(1)", log.known(1), 1);
        due.is("a third: known(2)", log.known(2), 0);
    }

    private static void union() {
        TentativeLog log = new TentativeLog(4);
        due.is("both empty: known(1)", afterBring(log, 0, 1), 0);
        log.write(0, TentativeLog.ADD, 0, 1);
        due.is("from an empty one: known(0)", afterBring(log, 1, 0), 1);
        due.is("to an empty one: known(1)", afterBring(log, 0, 1), 1);
        due.is("equal sets: known(1)", afterBring(log, 0, 1), 1);
        log.write(1, TentativeLog.ADD, 0, 10);
        due.is("from a part: known(1)", afterBring(log, 0, 1), 2);
        due.is("to a part: known(0)", afterBring(log, 1, 0), 2);
        log.write(0, TentativeLog.ADD, 0, 100);
        log.write(1, TentativeLog.ADD, 0, 1000);
        due.is("sets that share some: known(0)", afterBring(log, 1, 0), 4);
        log.write(2, TentativeLog.ADD, 0, 10000);
        due.is("sets that share none: known(2)", afterBring(log, 0, 2), 5);
        due.is("cell(2, 0)", log.cell(2, 0), 11111);
        due.is("cell(0, 0)", log.cell(0, 0), 1111);
        due.is("cell(1, 0)", log.cell(1, 0), 1011);
    }

    private static int afterBring(TentativeLog log, int from, int to) {
        log.bring(from, to);
        return log.known(to);
    }

    private static void onlyWhatFromKnows() {
        TentativeLog log = new TentativeLog(3);
        log.write(0, TentativeLog.ADD, 0, 1);
        log.bring(0, 1);
        log.write(0, TentativeLog.ADD, 0, 10);
        log.commit(2);
        log.bring(1, 2);
        due.is("known(2)", log.known(2), 1);
        due.is("cell(2, 0)", log.cell(2, 0), 1);
        due.is("standing(2, 0)", log.standing(2, 0), TentativeLog.APPLIED);
        due.is("standing(2, 1)", log.standing(2, 1), TentativeLog.UNKNOWN);
        due.is("committed(2)", log.committed(2), 0);
    }

    private static void largerM() {
        TentativeLog log = new TentativeLog(3);
        log.write(0, TentativeLog.ADD, 0, 1);
        log.write(0, TentativeLog.ADD, 0, 1);
        log.commit(1);
        log.bring(0, 1);
        due.is("larger: committed(1)", log.committed(1), 1);
        log.bring(0, 1);
        due.is("equal: committed(1)", log.committed(1), 1);
        log.commit(1);
        log.bring(1, 0);
        due.is("smaller: committed(0)", log.committed(0), 2);
        due.is("smaller: stable(0, 0)", log.stable(0, 0), 2);
        log.bring(0, 2);
        due.is("from 0: committed(2)", log.committed(2), 2);
        due.is("no new write, but a larger m: bring(2, 1)", log.bring(2, 1), 0);
        due.is("committed(1)", log.committed(1), 2);
        due.is("stable(1, 0)", log.stable(1, 0), 2);
    }

    private static void largerClock() {
        due.clocks("the larger one of 'from'", () -> brought(withClocks(1, 4, 2), 1, 0), 4, 4, 2);
        due.clocks("the larger one of 'to'", () -> brought(withClocks(1, 4, 2), 0, 1), 1, 4, 2);
        due.clocks("equal ones", () -> brought(withClocks(3, 3, 2), 0, 1), 3, 3, 2);
        due.clocks("both 0", () -> brought(withClocks(0, 0, 0), 2, 1), 0, 0, 0);
        due.clocks("0 of 'from'", () -> brought(withClocks(0, 2, 0), 0, 1), 0, 2, 0);
        due.clocks("0 of 'to'", () -> brought(withClocks(0, 2, 0), 1, 2), 0, 2, 2);
        due.clocks("one apart", () -> brought(withClocks(5, 4, 0), 0, 1), 5, 5, 0);
        due.clocks("twice", () -> brought(brought(withClocks(5, 4, 0), 0, 1), 0, 1), 5, 5, 0);
        due.clocks("passed on", () -> brought(brought(withClocks(5, 4, 0), 0, 1), 1, 2), 5, 5, 5);
    }

    private static TentativeLog brought(TentativeLog log, int from, int to) {
        log.bring(from, to);
        return log;
    }

    /** A clock comes along by way of a replica that took no write; equal clocks do not add up. */
    private static void clockOfNoWrite() {
        TentativeLog log = new TentativeLog(3);
        log.write(2, TentativeLog.SET, 0, 1);
        log.write(2, TentativeLog.SET, 0, 2);
        log.bring(2, 1);
        log.bring(2, 1);
        log.bring(1, 2);
        log.bring(1, 0);
        log.write(2, TentativeLog.SET, 0, 3);
        log.write(0, TentativeLog.SET, 0, 4);
        due.is("stamp 3 by way of replica 1: cell(0, 0)", log.cell(0, 0), 4);
        log.bring(2, 0);
        due.is("both have stamp 3, origin 2 is last: cell(0, 0)", log.cell(0, 0), 3);
    }

    private static void fromStays() {
        TentativeLog log = new TentativeLog(2);
        log.write(0, TentativeLog.ADD, 0, 1);
        log.write(0, TentativeLog.ADD, 0, 1);
        log.commit(2);
        log.write(1, TentativeLog.ADD, 0, 10);
        log.bring(1, 0);
        due.is("its set: known(1)", log.known(1), 1);
        due.is("its m: committed(1)", log.committed(1), 0);
        due.is("its store: cell(1, 0)", log.cell(1, 0), 10);
        due.is("its stable store: stable(1, 0)", log.stable(1, 0), 0);
        due.is("what it does not know: standing(1, 0)", log.standing(1, 0), TentativeLog.UNKNOWN);
        due.is("what it knows: standing(1, 2)", log.standing(1, 2), TentativeLog.APPLIED);
        log.write(1, TentativeLog.SET, 0, 7);
        log.write(0, TentativeLog.SET, 0, 5);
        log.bring(1, 0);
        due.is("its clock was 1, so stamp 2 ahead of stamp 3: cell(0, 0)", log.cell(0, 0), 5);
    }

    private static void learned() {
        TentativeLog log = new TentativeLog(4);
        due.is("both empty: bring(0, 1)", log.bring(0, 1), 0);
        for (int n = 0; n < ROOM; n++) {
            log.write(n / 24, TentativeLog.ADD, 0, 1);
        }
        due.is("none there: bring(2, 0)", log.bring(2, 0), 0);
        due.is("bring(0, 3)", log.bring(0, 3), 24);
        due.is("again: bring(0, 3)", log.bring(0, 3), 0);
        due.is("bring(1, 0)", log.bring(1, 0), 24);
        log.commit(30);
        due.is("half of them new: bring(0, 3)", log.bring(0, 3), 24);
        due.is("all 48, most of them committed: bring(3, 2)", log.bring(3, 2), ROOM);
        log.commit(18);
        due.is("only a larger m: bring(0, 2)", log.bring(0, 2), 0);
    }

    /** A write that was stamped early runs before the ones already known, and may change them. */
    private static void anOlderWriteComesLate() {
        TentativeLog log = new TentativeLog(2);
        log.write(1, TentativeLog.ADD, 3, 5);
        log.write(0, TentativeLog.ADD, 0, 0);
        log.write(0, TentativeLog.TAKE, 3, 5);
        due.is("before: standing(0, 2)", log.standing(0, 2), TentativeLog.FAILED);
        log.bring(1, 0);
        due.is("after: standing(0, 2)", log.standing(0, 2), TentativeLog.APPLIED);
        due.is("after: cell(0, 3)", log.cell(0, 3), 0);
    }
}
