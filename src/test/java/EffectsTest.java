/** Terms: the effect and the outcome of each kind of write, tentative and committed. */
public final class EffectsTest {
    private static final int MIN = Integer.MIN_VALUE;
    private static final int MAX = Integer.MAX_VALUE;
    private static final Due due = new Due();

    public static void main(String[] args) {
        set();
        add();
        take();
        move();
        claim();
        swap();
        due.end();
    }

    /** Makes the cells of replica 0 what is asked, runs one write and looks at all of it. */
    private static void run(String name, int kind, int cell, int value, int[] before, int outcome, int... after) {
        TentativeLog log = new TentativeLog(2);
        for (int c = 0; c < 8; c++) {
            log.write(0, TentativeLog.SET, c, before[c]);
        }
        int number = log.write(0, kind, cell, value);
        due.is(name + ": standing(0, " + number + ")", log.standing(0, number), outcome);
        due.store(name, log, 0, after);
        due.stable(name + ", not committed", log, 0, 0, 0, 0, 0, 0, 0, 0, 0);
        log.commit(9);
        due.stable(name + ", committed", log, 0, after);
        due.store(name + ", committed", log, 0, after);
    }

    private static int[] cells(int... cells) {
        return cells;
    }

    private static void set() {
        run("SET 3", 0, 3, 5, cells(1, 2, 3, 4, 5, 6, 7, 8), TentativeLog.APPLIED, 1, 2, 3, 5, 5, 6, 7, 8);
        run("SET 0", 0, 0, MIN, cells(1, 2, 3, 4, 5, 6, 7, 8), TentativeLog.APPLIED, MIN, 2, 3, 4, 5, 6, 7, 8);
        run("SET 7", 0, 7, 0, cells(1, 2, 3, 4, 5, 6, 7, 8), TentativeLog.APPLIED, 1, 2, 3, 4, 5, 6, 7, 0);
    }

    private static void add() {
        run("ADD 5", 1, 5, 5, cells(1, 2, 3, 4, 5, 6, 7, 8), TentativeLog.APPLIED, 1, 2, 3, 4, 5, 11, 7, 8);
        run("ADD -9", 1, 0, -9, cells(1, 2, 3, 4, 5, 6, 7, 8), TentativeLog.APPLIED, -8, 2, 3, 4, 5, 6, 7, 8);
        run("ADD wraps", 1, 7, 1, cells(0, 0, 0, 0, 0, 0, 0, MAX), TentativeLog.APPLIED, 0, 0, 0, 0, 0, 0, 0, MIN);
    }

    private static void take() {
        run("TAKE less", 2, 2, 2, cells(1, 2, 3, 4, 5, 6, 7, 8), TentativeLog.APPLIED, 1, 2, 1, 4, 5, 6, 7, 8);
        run("TAKE all", 2, 2, 3, cells(1, 2, 3, 4, 5, 6, 7, 8), TentativeLog.APPLIED, 1, 2, 0, 4, 5, 6, 7, 8);
        run("TAKE all of next", 2, 2, 4, cells(1, 2, 3, 4, 5, 6, 7, 8), TentativeLog.MERGED, 1, 2, 3, 0, 5, 6, 7, 8);
        run("TAKE too much", 2, 2, 5, cells(1, 2, 3, 4, 9, 9, 9, 9), TentativeLog.FAILED, 1, 2, 3, 4, 9, 9, 9, 9);
        run("TAKE 7, next is 0", 2, 7, 9, cells(9, 0, 0, 0, 0, 0, 0, 8), TentativeLog.MERGED, 0, 0, 0, 0, 0, 0, 0, 8);
        run("TAKE negative", 2, 0, -3, cells(-3, 0, 0, 0, 0, 0, 0, 0), TentativeLog.APPLIED, 0, 0, 0, 0, 0, 0, 0, 0);
        run("TAKE negative of next", 2, 0, -3, cells(-4, -3, 0, 0, 0, 0, 0, 0),
                TentativeLog.MERGED, -4, 0, 0, 0, 0, 0, 0, 0);
        run("TAKE wraps", 2, 0, MIN, cells(1, 0, 0, 0, 0, 0, 0, 0),
                TentativeLog.APPLIED, MIN + 1, 0, 0, 0, 0, 0, 0, 0);
        run("TAKE of a least cell", 2, 0, 1, cells(MIN, MIN, 0, 0, 0, 0, 0, 0),
                TentativeLog.FAILED, MIN, MIN, 0, 0, 0, 0, 0, 0);
    }

    private static void move() {
        run("MOVE less", 3, 2, 2, cells(1, 2, 3, 4, 5, 6, 7, 8), TentativeLog.APPLIED, 1, 2, 1, 6, 5, 6, 7, 8);
        run("MOVE all", 3, 2, 3, cells(1, 2, 3, 4, 5, 6, 7, 8), TentativeLog.APPLIED, 1, 2, 0, 7, 5, 6, 7, 8);
        run("MOVE too much", 3, 2, 4, cells(1, 2, 3, 9, 9, 9, 9, 9), TentativeLog.FAILED, 1, 2, 3, 9, 9, 9, 9, 9);
        run("MOVE 7 to 0", 3, 7, 5, cells(1, 0, 0, 0, 0, 0, 0, 8), TentativeLog.APPLIED, 6, 0, 0, 0, 0, 0, 0, 3);
        run("MOVE negative", 3, 0, -2, cells(-2, 5, 0, 0, 0, 0, 0, 0), TentativeLog.APPLIED, 0, 3, 0, 0, 0, 0, 0, 0);
        run("MOVE wraps", 3, 0, 1, cells(1, MAX, 0, 0, 0, 0, 0, 0), TentativeLog.APPLIED, 0, MIN, 0, 0, 0, 0, 0, 0);
        run("MOVE of a least cell", 3, 0, 1, cells(MIN, 0, 0, 0, 0, 0, 0, 0),
                TentativeLog.FAILED, MIN, 0, 0, 0, 0, 0, 0, 0);
    }

    private static void claim() {
        run("CLAIM free", 4, 3, 5, cells(1, 2, 3, 0, 0, 6, 7, 8), TentativeLog.APPLIED, 1, 2, 3, 5, 0, 6, 7, 8);
        run("CLAIM next", 4, 3, 5, cells(0, 2, 3, 4, 0, 0, 7, 8), TentativeLog.MERGED, 0, 2, 3, 4, 5, 0, 7, 8);
        run("CLAIM round", 4, 6, 5, cells(1, 0, 0, 4, 5, 6, 7, 8), TentativeLog.MERGED, 1, 5, 0, 4, 5, 6, 7, 8);
        run("CLAIM the seventh", 4, 3, 9, cells(1, 2, 0, 4, 5, 6, 7, 8), TentativeLog.MERGED, 1, 2, 9, 4, 5, 6, 7, 8);
        run("CLAIM none", 4, 3, 9, cells(1, 2, -3, 4, 5, 6, 7, MIN), TentativeLog.FAILED, 1, 2, -3, 4, 5, 6, 7, MIN);
        run("CLAIM 0", 4, 3, 0, cells(1, 2, 3, 0, 5, 6, 7, 8), TentativeLog.APPLIED, 1, 2, 3, 0, 5, 6, 7, 8);
        run("CLAIM 0 of next", 4, 3, 0, cells(1, 2, 3, 4, 0, 6, 7, 8), TentativeLog.MERGED, 1, 2, 3, 4, 0, 6, 7, 8);
    }

    private static void swap() {
        run("SWAP 2", 5, 2, 99, cells(1, 2, 3, 4, 5, 6, 7, 8), TentativeLog.APPLIED, 1, 2, 4, 3, 5, 6, 7, 8);
        run("SWAP 7", 5, 7, -1, cells(1, 2, 3, 4, 5, 6, 7, 8), TentativeLog.APPLIED, 8, 2, 3, 4, 5, 6, 7, 1);
    }
}
