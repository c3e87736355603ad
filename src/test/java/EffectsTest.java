/** Terms: the effect and the outcome of each kind of write, tentative and committed. */
public final class EffectsTest {
    private static final int MIN = Integer.MIN_VALUE;
    private static final int MAX = Integer.MAX_VALUE;
    private static final int SET = TentativeLog.SET;
    private static final int ADD = TentativeLog.ADD;
    private static final int TAKE = TentativeLog.TAKE;
    private static final int MOVE = TentativeLog.MOVE;
    private static final int CLAIM = TentativeLog.CLAIM;
    private static final int SWAP = TentativeLog.SWAP;
    private static final int APPLIED = TentativeLog.APPLIED;
    private static final int MERGED = TentativeLog.MERGED;
    private static final int FAILED = TentativeLog.FAILED;
    private static final Due due = new Due();

    public static void main(String[] args) {
        due.under("a value v (any int)", EffectsTest::anyInt);
        due.under("where next = (c + 1) & 7", EffectsTest::nextOfTheLast);
        due.under("arithmetic wraps", EffectsTest::wraps);
        due.under("cell c becomes v: APPLIED.", EffectsTest::set);
        due.under("cell c grows by v: APPLIED.", EffectsTest::add);
        due.under("if cell c >= v: cell c shrinks by v: APPLIED.", EffectsTest::take);
        due.under("Else if cell next >= v: cell next shrinks by v: MERGED.", EffectsTest::takeOfNext);
        due.under("TAKE .. Else nothing: FAILED.", EffectsTest::takeOfNone);
        due.under("if cell c >= v: cell c shrinks by v, then cell next grows by v: APPLIED.", EffectsTest::move);
        due.under("MOVE .. Else nothing: FAILED.", EffectsTest::moveOfNone);
        due.under("if cell c is 0: it becomes v: APPLIED.", EffectsTest::claim);
        due.under("Else the first of the cells c + 1, c + 2, .. c + 7 (each & 7, in this order) that is 0 becomes v:"
                + " MERGED.", EffectsTest::claimOfAnother);
        due.under("CLAIM .. Else nothing: FAILED.", EffectsTest::claimOfNone);
        due.under("cells c and next exchange their values: APPLIED.", EffectsTest::swap);
        due.end();
    }

    /** Makes the cells of replica 0 what is asked, runs one write and looks at all of it. */
    private static void run(String name, int kind, int cell, int value, int[] before, int outcome, int... after) {
        TentativeLog log = new TentativeLog(2);
        for (int c = 0; c < 8; c++) {
            log.write(0, SET, c, before[c]);
        }
        int number = log.write(0, kind, cell, value);
        due.is(name + ": standing(0, " + number + ")", log.standing(0, number), outcome);
        due.store(name, log, 0, after);
        due.stable(name + ", not committed", log, 0, 0, 0, 0, 0, 0, 0, 0, 0);
        log.commit(9);
        due.stable(name + ", committed", log, 0, after);
        due.store(name + ", committed", log, 0, after);
    }

    /** As run, at each of the eight cells: the given cells are c, c + 1, .. c + 7, each & 7. */
    private static void runEverywhere(String name, int kind, int value, int[] before, int outcome, int... after) {
        for (int c = 0; c < 8; c++) {
            run(name + " at " + c, kind, c, value, turned(before, c), outcome, turned(after, c));
        }
    }

    private static int[] turned(int[] cells, int by) {
        int[] turned = new int[8];
        for (int i = 0; i < 8; i++) {
            turned[(i + by) % 8] = cells[i];
        }
        return turned;
    }

    private static int[] cells(int... cells) {
        return cells;
    }

    private static void anyInt() {
        for (int v : new int[] {MIN, MIN + 1, -1, 0, 1, MAX - 1, MAX}) {
            runEverywhere("SET " + v, SET, v, cells(9, 9, 9, 9, 9, 9, 9, 9), APPLIED, v, 9, 9, 9, 9, 9, 9, 9);
            runEverywhere("ADD " + v, ADD, v, cells(0, 9, 9, 9, 9, 9, 9, 9), APPLIED, v, 9, 9, 9, 9, 9, 9, 9);
            runEverywhere("TAKE " + v, TAKE, v, cells(v, 9, 9, 9, 9, 9, 9, 9), APPLIED, 0, 9, 9, 9, 9, 9, 9, 9);
            runEverywhere("MOVE " + v, MOVE, v, cells(v, 0, 9, 9, 9, 9, 9, 9), APPLIED, 0, v, 9, 9, 9, 9, 9, 9);
            runEverywhere("CLAIM " + v, CLAIM, v, cells(0, 9, 9, 9, 9, 9, 9, 9), APPLIED, v, 9, 9, 9, 9, 9, 9, 9);
            runEverywhere("SWAP " + v, SWAP, v, cells(v, 9, 8, 8, 8, 8, 8, 8), APPLIED, 9, v, 8, 8, 8, 8, 8, 8);
        }
    }

    private static void nextOfTheLast() {
        run("TAKE 7, next is 0", TAKE, 7, 9, cells(9, 0, 0, 0, 0, 0, 0, 8), MERGED, 0, 0, 0, 0, 0, 0, 0, 8);
        run("TAKE 6, next is 7", TAKE, 6, 9, cells(9, 0, 0, 0, 0, 0, 8, 9), MERGED, 9, 0, 0, 0, 0, 0, 8, 0);
        run("TAKE 7, 6 is not next", TAKE, 7, 9, cells(8, 9, 9, 9, 9, 9, 9, 8), FAILED, 8, 9, 9, 9, 9, 9, 9, 8);
        run("MOVE 7 to 0", MOVE, 7, 5, cells(1, 0, 0, 0, 0, 0, 0, 8), APPLIED, 6, 0, 0, 0, 0, 0, 0, 3);
        run("MOVE 6 to 7", MOVE, 6, 5, cells(1, 0, 0, 0, 0, 0, 7, 8), APPLIED, 1, 0, 0, 0, 0, 0, 2, 13);
        run("SWAP 7 and 0", SWAP, 7, -1, cells(1, 2, 3, 4, 5, 6, 7, 8), APPLIED, 8, 2, 3, 4, 5, 6, 7, 1);
        run("SWAP 6 and 7", SWAP, 6, -1, cells(1, 2, 3, 4, 5, 6, 7, 8), APPLIED, 1, 2, 3, 4, 5, 6, 8, 7);
    }

    private static void wraps() {
        runEverywhere("ADD above", ADD, 1, cells(MAX, 9, 9, 9, 9, 9, 9, 9), APPLIED, MIN, 9, 9, 9, 9, 9, 9, 9);
        runEverywhere("ADD below", ADD, -1, cells(MIN, 9, 9, 9, 9, 9, 9, 9), APPLIED, MAX, 9, 9, 9, 9, 9, 9, 9);
        runEverywhere("ADD twice MIN", ADD, MIN, cells(MIN, 9, 9, 9, 9, 9, 9, 9), APPLIED, 0, 9, 9, 9, 9, 9, 9, 9);
        runEverywhere("ADD twice MAX", ADD, MAX, cells(MAX, 9, 9, 9, 9, 9, 9, 9), APPLIED, -2, 9, 9, 9, 9, 9, 9, 9);
        runEverywhere("TAKE above", TAKE, -1, cells(MAX, 9, 9, 9, 9, 9, 9, 9), APPLIED, MIN, 9, 9, 9, 9, 9, 9, 9);
        runEverywhere("TAKE MIN", TAKE, MIN, cells(1, 9, 9, 9, 9, 9, 9, 9), APPLIED, MIN + 1, 9, 9, 9, 9, 9, 9, 9);
        runEverywhere("TAKE of next, above", TAKE, -5, cells(-6, MAX, 9, 9, 9, 9, 9, 9),
                MERGED, -6, MIN + 4, 9, 9, 9, 9, 9, 9);
        runEverywhere("MOVE, c above and next below", MOVE, -1, cells(MAX, MIN, 9, 9, 9, 9, 9, 9),
                APPLIED, MIN, MAX, 9, 9, 9, 9, 9, 9);
        runEverywhere("MOVE, next above", MOVE, 1, cells(1, MAX, 9, 9, 9, 9, 9, 9),
                APPLIED, 0, MIN, 9, 9, 9, 9, 9, 9);
        // A comparison by a difference that wraps would turn these four round.
        runEverywhere("TAKE of MIN", TAKE, 1, cells(MIN, MIN, 9, 9, 9, 9, 9, 9), FAILED, MIN, MIN, 9, 9, 9, 9, 9, 9);
        runEverywhere("TAKE -2 of MAX", TAKE, -2, cells(MAX, 9, 9, 9, 9, 9, 9, 9),
                APPLIED, MIN + 1, 9, 9, 9, 9, 9, 9, 9);
        runEverywhere("MOVE of MIN", MOVE, 1, cells(MIN, 9, 9, 9, 9, 9, 9, 9), FAILED, MIN, 9, 9, 9, 9, 9, 9, 9);
        runEverywhere("MOVE -2 of MAX", MOVE, -2, cells(MAX, 2, 9, 9, 9, 9, 9, 9),
                APPLIED, MIN + 1, 0, 9, 9, 9, 9, 9, 9);
    }

    private static void set() {
        runEverywhere("SET 5", SET, 5, cells(4, 2, 3, 4, 5, 6, 7, 8), APPLIED, 5, 2, 3, 4, 5, 6, 7, 8);
        runEverywhere("SET what it is", SET, 4, cells(4, 2, 3, 4, 5, 6, 7, 8), APPLIED, 4, 2, 3, 4, 5, 6, 7, 8);
        runEverywhere("SET 0", SET, 0, cells(4, 2, 3, 4, 5, 6, 7, 8), APPLIED, 0, 2, 3, 4, 5, 6, 7, 8);
    }

    private static void add() {
        runEverywhere("ADD 5", ADD, 5, cells(6, 2, 3, 4, 5, 6, 7, 8), APPLIED, 11, 2, 3, 4, 5, 6, 7, 8);
        runEverywhere("ADD 0", ADD, 0, cells(6, 2, 3, 4, 5, 6, 7, 8), APPLIED, 6, 2, 3, 4, 5, 6, 7, 8);
        runEverywhere("ADD -9", ADD, -9, cells(1, 2, 3, 4, 5, 6, 7, 8), APPLIED, -8, 2, 3, 4, 5, 6, 7, 8);
    }

    private static void take() {
        runEverywhere("TAKE less", TAKE, 2, cells(3, 4, 5, 6, 7, 8, 9, 9), APPLIED, 1, 4, 5, 6, 7, 8, 9, 9);
        runEverywhere("TAKE all", TAKE, 3, cells(3, 4, 5, 6, 7, 8, 9, 9), APPLIED, 0, 4, 5, 6, 7, 8, 9, 9);
        runEverywhere("TAKE 0 of 0", TAKE, 0, cells(0, 4, 5, 6, 7, 8, 9, 9), APPLIED, 0, 4, 5, 6, 7, 8, 9, 9);
        runEverywhere("TAKE -3 of -3", TAKE, -3, cells(-3, 4, 5, 6, 7, 8, 9, 9), APPLIED, 0, 4, 5, 6, 7, 8, 9, 9);
        runEverywhere("TAKE -3 of 1", TAKE, -3, cells(1, 4, 5, 6, 7, 8, 9, 9), APPLIED, 4, 4, 5, 6, 7, 8, 9, 9);
    }

    private static void takeOfNext() {
        runEverywhere("TAKE one more", TAKE, 4, cells(3, 5, 9, 9, 9, 9, 9, 9), MERGED, 3, 1, 9, 9, 9, 9, 9, 9);
        runEverywhere("TAKE all of next", TAKE, 4, cells(3, 4, 9, 9, 9, 9, 9, 9), MERGED, 3, 0, 9, 9, 9, 9, 9, 9);
        runEverywhere("TAKE 0 of next", TAKE, 0, cells(-1, 0, 9, 9, 9, 9, 9, 9), MERGED, -1, 0, 9, 9, 9, 9, 9, 9);
        runEverywhere("TAKE -3 of next", TAKE, -3, cells(-4, -3, 9, 9, 9, 9, 9, 9), MERGED, -4, 0, 9, 9, 9, 9, 9, 9);
    }

    private static void takeOfNone() {
        runEverywhere("TAKE too much", TAKE, 5, cells(4, 4, 9, 9, 9, 9, 9, 9), FAILED, 4, 4, 9, 9, 9, 9, 9, 9);
        runEverywhere("TAKE 0 of -1", TAKE, 0, cells(-1, -1, 9, 9, 9, 9, 9, 9), FAILED, -1, -1, 9, 9, 9, 9, 9, 9);
        runEverywhere("TAKE MAX", TAKE, MAX, cells(MAX - 1, MAX - 1, MAX, MAX, MAX, MAX, MAX, MAX),
                FAILED, MAX - 1, MAX - 1, MAX, MAX, MAX, MAX, MAX, MAX);
    }

    private static void move() {
        runEverywhere("MOVE less", MOVE, 2, cells(3, 4, 5, 6, 7, 8, 9, 9), APPLIED, 1, 6, 5, 6, 7, 8, 9, 9);
        runEverywhere("MOVE all", MOVE, 3, cells(3, 4, 5, 6, 7, 8, 9, 9), APPLIED, 0, 7, 5, 6, 7, 8, 9, 9);
        runEverywhere("MOVE 0 of 0", MOVE, 0, cells(0, 4, 5, 6, 7, 8, 9, 9), APPLIED, 0, 4, 5, 6, 7, 8, 9, 9);
        runEverywhere("MOVE -2 of -2", MOVE, -2, cells(-2, 5, 5, 6, 7, 8, 9, 9), APPLIED, 0, 3, 5, 6, 7, 8, 9, 9);
    }

    private static void moveOfNone() {
        runEverywhere("MOVE one more", MOVE, 4, cells(3, 9, 9, 9, 9, 9, 9, 9), FAILED, 3, 9, 9, 9, 9, 9, 9, 9);
        runEverywhere("MOVE 0 of -1", MOVE, 0, cells(-1, 9, 9, 9, 9, 9, 9, 9), FAILED, -1, 9, 9, 9, 9, 9, 9, 9);
        runEverywhere("MOVE MAX", MOVE, MAX, cells(MAX - 1, MAX, 9, 9, 9, 9, 9, 9),
                FAILED, MAX - 1, MAX, 9, 9, 9, 9, 9, 9);
    }

    private static void claim() {
        runEverywhere("CLAIM free", CLAIM, 5, cells(0, 0, 0, 0, 0, 6, 7, 8), APPLIED, 5, 0, 0, 0, 0, 6, 7, 8);
        runEverywhere("CLAIM the only free", CLAIM, 5, cells(0, 1, 2, 3, 4, 6, 7, 8), APPLIED, 5, 1, 2, 3, 4, 6, 7, 8);
        runEverywhere("CLAIM 0", CLAIM, 0, cells(0, 0, 3, 4, 5, 6, 7, 8), APPLIED, 0, 0, 3, 4, 5, 6, 7, 8);
    }

    private static void claimOfAnother() {
        for (int step = 1; step < 8; step++) {
            int[] before = cells(-1, 2, 3, 4, 5, 6, 7, MIN);
            int[] after = cells(-1, 2, 3, 4, 5, 6, 7, MIN);
            for (int free = step; free < 8; free++) {
                before[free] = 0;
                after[free] = 0;
            }
            after[step] = 9;
            runEverywhere("CLAIM, free from c + " + step, CLAIM, 9, before, MERGED, after);
        }
        runEverywhere("CLAIM 0 of next", CLAIM, 0, cells(4, 0, 3, 4, 5, 6, 7, 8), MERGED, 4, 0, 3, 4, 5, 6, 7, 8);
    }

    private static void claimOfNone() {
        runEverywhere("CLAIM none", CLAIM, 9, cells(1, 2, -3, 4, 5, 6, 7, MIN), FAILED, 1, 2, -3, 4, 5, 6, 7, MIN);
        runEverywhere("CLAIM 0, none", CLAIM, 0, cells(1, 1, 1, 1, 1, 1, 1, -1), FAILED, 1, 1, 1, 1, 1, 1, 1, -1);
    }

    private static void swap() {
        runEverywhere("SWAP", SWAP, 99, cells(1, 2, 3, 4, 5, 6, 7, 8), APPLIED, 2, 1, 3, 4, 5, 6, 7, 8);
        runEverywhere("SWAP equals", SWAP, 99, cells(2, 2, 3, 4, 5, 6, 7, 8), APPLIED, 2, 2, 3, 4, 5, 6, 7, 8);
        runEverywhere("SWAP ends", SWAP, 0, cells(MIN, MAX, 3, 4, 5, 6, 7, 8), APPLIED, MAX, MIN, 3, 4, 5, 6, 7, 8);
    }
}
