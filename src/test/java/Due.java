import java.util.function.Supplier;

/** Holds answers against the ones that are due; one test program uses one Due. */
final class Due {
    /** Just past the last number that a write can get. */
    private static final int PAST_ALL_NUMBERS = 48;
    private static final int RULER = 3;
    private static final int RULER_LENGTH = 24;

    private String sentence = "";
    private int held = 0;
    private int wrong = 0;

    /** Runs the test of one sentence of the document; what it finds is told under the sentence's words. */
    void under(String words, Runnable test) {
        sentence = "\"" + words + "\": ";
        int before = held;
        try {
            test.run();
        } catch (RuntimeException thrown) {
            wrong("threw " + thrown);
        }
        if (held == before) {
            wrong("nothing was held against the document");
        }
        sentence = "";
    }

    void is(String call, int got, int want) {
        held++;
        if (got != want) {
            wrong(call + " answered " + got + ", due is " + want);
        }
    }

    /** Holds the whole store of a replica against eight cells. */
    void store(String when, TentativeLog log, int replica, int... cells) {
        for (int c = 0; c < cells.length; c++) {
            is(when + ": cell(" + replica + ", " + c + ")", log.cell(replica, c), cells[c]);
        }
    }

    /** Holds the whole stable store of a replica against eight cells. */
    void stable(String when, TentativeLog log, int replica, int... cells) {
        for (int c = 0; c < cells.length; c++) {
            is(when + ": stable(" + replica + ", " + c + ")", log.stable(replica, c), cells[c]);
        }
    }

    /** Holds every answer that an object of so many replicas can give against another object's. */
    void same(String when, TentativeLog log, TentativeLog twin, int replicas) {
        for (int r = 0; r < replicas; r++) {
            String at = when + ", unlike its twin: ";
            is(at + "known(" + r + ")", log.known(r), twin.known(r));
            is(at + "committed(" + r + ")", log.committed(r), twin.committed(r));
            for (int c = 0; c < 8; c++) {
                is(at + "cell(" + r + ", " + c + ")", log.cell(r, c), twin.cell(r, c));
                is(at + "stable(" + r + ", " + c + ")", log.stable(r, c), twin.stable(r, c));
            }
            for (int n = 0; n <= PAST_ALL_NUMBERS; n++) {
                is(at + "standing(" + r + ", " + n + ")", log.standing(r, n), twin.standing(r, n));
            }
        }
    }

    /**
     * Holds the clocks of the replicas 0, 1 and 2 of four against the ones that are due. Replica 3, the cells 0
     * and 7 and 25 of the 48 writes have to be unused, and a clock is measured up to 24.
     */
    void clocks(String when, Supplier<TentativeLog> made, int... want) {
        for (int r = 0; r < want.length; r++) {
            is(when + ": the clock of " + r, clock(made.get(), r), want[r]);
        }
    }

    /**
     * No call answers a clock. But replica 3 can lay out additions to cell 7 with the stamps 1, 2, 3 .., and a SWAP
     * that the replica takes then carries off into cell 0 how many of them have a stamp up to its clock.
     */
    private static int clock(TentativeLog log, int r) {
        for (int n = 0; n < RULER_LENGTH; n++) {
            log.write(RULER, TentativeLog.ADD, 7, 1);
        }
        log.write(r, TentativeLog.SWAP, 7, 0);
        log.bring(RULER, r);
        return log.cell(r, 0);
    }

    void end() {
        System.out.println(wrong == 0 ? "all answers are as due" : wrong + " answers are not as due");
        if (wrong != 0) {
            System.exit(1);
        }
    }

    private void wrong(String what) {
        wrong++;
        System.out.println(sentence + what);
    }
}
