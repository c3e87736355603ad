/** Holds answers against the ones that are due; one test program uses one Due. */
final class Due {
    private int wrong = 0;

    void is(String call, int got, int want) {
        if (got != want) {
            wrong++;
            System.out.println(call + " answered " + got + ", due is " + want);
        }
    }

    /** Holds the whole store of a replica against eight cells. */
    void store(String when, TentativeLog log, int replica, int... cells) {
        for (int c = 0; c < cells.length; c++) {
            is(when + ": cell(" + replica + ", " + c + ")", log.cell(replica, c), cells[c]);
        }
    }

    /** Holds the whole stable store of a replica against eight cells. */
    void stable(String when, TentativeLog log, int replica, int... cells) {
        for (int c = 0; c < cells.length; c++) {
            is(when + ": stable(" + replica + ", " + c + ")", log.stable(replica, c), cells[c]);
        }
    }

    void end() {
        System.out.println(wrong == 0 ? "all answers are as due" : wrong + " answers are not as due");
        if (wrong != 0) {
            System.exit(1);
        }
    }
}
