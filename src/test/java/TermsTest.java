/** Terms: what a replica knows, the commit order, the two stores and the room for writes. */
public final class TermsTest {
    private static final int ROOM = 48;
    private static final Due due = new Due();

    public static void main(String[] args) {
        due.under("Each replica's store has eight int cells (0 to 7), all 0 at the start.", TermsTest::zeros);
        due.under("knows at first only its own, and learns others' writes when two replicas are brought together",
                TermsTest::onlyItsOwn);
        due.under("Writes are TENTATIVE until replica 0 has committed them.", TermsTest::untilReplicaZero);
        due.under("it knows that the first m writes in the COMMIT ORDER are committed", TermsTest::everyM);
        due.under("The commit order is one list for the whole system", TermsTest::oneList);
        due.under("Every write among those m is in the replica's set; the other writes of its set are tentative for"
                + " it.", TermsTest::committedAreInTheSet);
        due.under("what comes of eight zeros by the first m writes of the commit order, in that order",
                TermsTest::stableOfEveryM);
        due.under("what comes of its stable store by its tentative writes", TermsTest::stableFirst);
        due.under("smaller stamp first", TermsTest::smallerStamp);
        due.under("of equal stamps smaller origin first", TermsTest::smallerOrigin);
        due.under("The outcome of a tentative write is the one it has in this run.", TermsTest::outcomeOfThisRun);
        due.under("The store has room for 48 writes in all.", TermsTest::room);
        due.under("The calls below change nothing that any call answers.", TermsTest::questionsChangeNothing);
        due.under("The calls below change nothing that any call answers.", TermsTest::questionsChangeNoClock);
        due.end();
    }

    private static void zeros() {
        for (int replicas = 2; replicas <= 4; replicas++) {
            TentativeLog log = new TentativeLog(replicas);
            for (int r = 0; r < replicas; r++) {
                due.store("new", log, r, 0, 0, 0, 0, 0, 0, 0, 0);
                due.stable("new", log, r, 0, 0, 0, 0, 0, 0, 0, 0);
            }
        }
        TentativeLog log = new TentativeLog(2);
        for (int c = 0; c < 8; c++) {
            log.write(1, TentativeLog.SET, c, c + 1);
        }
        due.store("eight cells of their own", log, 1, 1, 2, 3, 4, 5, 6, 7, 8);
        due.store("the other's stay", log, 0, 0, 0, 0, 0, 0, 0, 0, 0);
    }

    private static void onlyItsOwn() {
        TentativeLog log = new TentativeLog(4);
        for (int r = 0; r < 4; r++) {
            log.write(r, TentativeLog.ADD, 0, 1 << r);
        }
        for (int r = 0; r < 4; r++) {
            due.is("known(" + r + ")", log.known(r), 1);
            due.is("cell(" + r + ", 0)", log.cell(r, 0), 1 << r);
            for (int n = 0; n < 4; n++) {
                int want = n == r ? TentativeLog.APPLIED : TentativeLog.UNKNOWN;
                due.is("standing(" + r + ", " + n + ")", log.standing(r, n), want);
            }
        }
        log.bring(3, 1);
        due.is("brought together: cell(1, 0)", log.cell(1, 0), 10);
        due.is("not at a third: cell(2, 0)", log.cell(2, 0), 4);
    }

    private static void untilReplicaZero() {
        TentativeLog log = new TentativeLog(2);
        log.write(1, TentativeLog.ADD, 0, 1);
        log.commit(1);
        due.is("replica 0 does not know it: standing(1, 0)", log.standing(1, 0), TentativeLog.APPLIED);
        log.bring(1, 0);
        due.is("known is not committed: standing(0, 0)", log.standing(0, 0), TentativeLog.APPLIED);
        due.is("known is not committed: stable(0, 0)", log.stable(0, 0), 0);
        log.commit(1);
        due.is("standing(0, 0)", log.standing(0, 0), TentativeLog.COMMITTED);
        due.is("stable(0, 0)", log.stable(0, 0), 1);
    }

    /** From none to all 48, at a replica that hears of each commit by bring, when the next is already there. */
    private static void everyM() {
        TentativeLog log = full();
        for (int m = 0; m <= ROOM; m++) {
            log.bring(0, 1);
            log.commit(1);
            due.is("m is " + m + ": committed(1)", log.committed(1), m);
            if (m > 0) {
                due.is("m is " + m + ": the last of them", log.standing(1, m - 1), TentativeLog.COMMITTED);
            }
            if (m < ROOM) {
                due.is("m is " + m + ": the next one", log.standing(1, m), TentativeLog.APPLIED);
            }
        }
    }

    /** 48 writes of replica 0: each adds its number to the cell of its number & 7. */
    private static TentativeLog full() {
        TentativeLog log = new TentativeLog(2);
        for (int n = 0; n < ROOM; n++) {
            log.write(0, TentativeLog.ADD, n & 7, n);
        }
        return log;
    }

    /** Replica 2 hears of the same first commits from replica 1, which heard of them earlier. */
    private static void oneList() {
        TentativeLog log = new TentativeLog(3);
        log.write(1, TentativeLog.SET, 0, 7);
        log.write(0, TentativeLog.SET, 0, 5);
        log.commit(1);
        log.bring(0, 1);
        log.bring(1, 0);
        log.commit(1);
        log.bring(1, 2);
        due.is("the first of the list: stable(2, 0)", log.stable(2, 0), 5);
        due.is("the first of the list: standing(2, 1)", log.standing(2, 1), TentativeLog.COMMITTED);
        due.is("not yet heard of: standing(2, 0)", log.standing(2, 0), TentativeLog.APPLIED);
        log.bring(0, 2);
        due.is("the second of the list: stable(2, 0)", log.stable(2, 0), 7);
        due.is("the second of the list: standing(2, 0)", log.standing(2, 0), TentativeLog.COMMITTED);
    }

    private static void committedAreInTheSet() {
        TentativeLog log = new TentativeLog(3);
        for (int n = 0; n < 6; n++) {
            log.write(n % 3, TentativeLog.ADD, 0, 1);
        }
        log.bring(1, 0);
        due.is("commit(3)", log.commit(3), 3);
        log.bring(0, 2);
        due.is("known(2)", log.known(2), 6);
        int[] want = {1, 1, 2, 1, 2, 2};
        for (int n = 0; n < 6; n++) {
            due.is("standing(2, " + n + ")", log.standing(2, n), want[n]);
        }
        due.is("its own is not in the order: stable(2, 0)", log.stable(2, 0), 3);
        due.is("and still runs: cell(2, 0)", log.cell(2, 0), 6);
    }

    /** SET and SWAP by turns, so that both the order and the count of the writes show. */
    private static void stableOfEveryM() {
        TentativeLog log = new TentativeLog(2);
        for (int n = 0; n < ROOM; n++) {
            log.write(0, n % 2 == 0 ? TentativeLog.SET : TentativeLog.SWAP, n % 3, 100 + n);
        }
        int[] store = new int[8];
        for (int m = 0; m <= ROOM; m++) {
            for (int c = 0; c < 4; c++) {
                due.is("m is " + m + ": stable(0, " + c + ")", log.stable(0, c), store[c]);
            }
            log.commit(1);
            int c = m % 3;
            if (m % 2 == 0) {
                store[c] = 100 + m;
            } else {
                int kept = store[c];
                store[c] = store[c + 1];
                store[c + 1] = kept;
            }
        }
    }

    /** The committed write has the greater stamp, and still runs first. */
    private static void stableFirst() {
        TentativeLog log = new TentativeLog(2);
        log.write(0, TentativeLog.ADD, 1, 0);
        log.write(0, TentativeLog.ADD, 1, 6);
        log.write(0, TentativeLog.SET, 0, 5);
        log.commit(3);
        log.write(1, TentativeLog.SET, 0, 8);
        log.bring(0, 1);
        due.is("what is stable shows: cell(1, 1)", log.cell(1, 1), 6);
        due.is("behind what is stable: cell(1, 0)", log.cell(1, 0), 8);
        due.is("none tentative: cell(0, 0)", log.cell(0, 0), 5);
        due.is("stable(1, 0)", log.stable(1, 0), 5);
    }

    /** The greater origin and the later number have the smaller stamp. */
    private static void smallerStamp() {
        TentativeLog log = new TentativeLog(2);
        log.write(0, TentativeLog.ADD, 1, 0);
        log.write(0, TentativeLog.SET, 0, 5);
        log.write(1, TentativeLog.SET, 0, 8);
        log.bring(1, 0);
        due.is("cell(0, 0)", log.cell(0, 0), 5);
        log.bring(0, 1);
        due.is("cell(1, 0)", log.cell(1, 0), 5);
    }

    /** Every pair of origins, the greater one writing first and second. */
    private static void smallerOrigin() {
        for (int a = 0; a < 4; a++) {
            for (int b = 0; b < 4; b++) {
                if (a == b) {
                    continue;
                }
                TentativeLog log = new TentativeLog(4);
                log.write(a, TentativeLog.SET, 0, a + 1);
                log.write(b, TentativeLog.SET, 0, b + 1);
                log.bring(a, b);
                log.bring(b, a);
                int last = Math.max(a, b) + 1;
                due.is("origins " + a + ", " + b + ": cell(" + a + ", 0)", log.cell(a, 0), last);
                due.is("origins " + a + ", " + b + ": cell(" + b + ", 0)", log.cell(b, 0), last);
            }
        }
    }

    /** One write, three outcomes, as its replica learns what runs ahead of it. */
    private static void outcomeOfThisRun() {
        TentativeLog log = new TentativeLog(3);
        log.write(0, TentativeLog.ADD, 0, 4);
        log.write(1, TentativeLog.ADD, 1, 4);
        log.write(2, TentativeLog.ADD, 7, 0);
        log.write(2, TentativeLog.TAKE, 0, 4);
        due.is("alone: standing(2, 3)", log.standing(2, 3), TentativeLog.FAILED);
        log.bring(1, 2);
        due.is("next has enough: standing(2, 3)", log.standing(2, 3), TentativeLog.MERGED);
        log.bring(0, 2);
        due.is("c has enough: standing(2, 3)", log.standing(2, 3), TentativeLog.APPLIED);
        log.bring(2, 0);
        log.commit(1);
        log.write(1, TentativeLog.SET, 0, 0);
        log.bring(1, 0);
        due.is("stamp 2, origin 1 runs ahead of it: standing(0, 3)", log.standing(0, 3), TentativeLog.MERGED);
    }

    private static void room() {
        for (int replicas = 2; replicas <= 4; replicas++) {
            TentativeLog log = new TentativeLog(replicas);
            for (int n = 0; n < ROOM; n++) {
                due.is("write " + n, log.write(n % replicas, TentativeLog.ADD, 0, 1), n);
            }
            for (int r = 0; r < replicas; r++) {
                due.is("one more at " + r, log.write(r, TentativeLog.ADD, 0, 1), TentativeLog.LOG_FULL);
                log.bring(r, 0);
            }
            due.is("commit(99)", log.commit(99), ROOM);
            log.trim(0, ROOM);
            due.is("committed and trimmed", log.write(0, TentativeLog.ADD, 0, 1), TentativeLog.LOG_FULL);
        }
    }

    /** The one twin is asked everything between the changes (3 times 134 calls), the other nothing. */
    private static void questionsChangeNothing() {
        TentativeLog asked = new TentativeLog(2);
        TentativeLog twin = new TentativeLog(2);
        for (int part = 0; part < 3; part++) {
            for (TentativeLog log : new TentativeLog[] {asked, twin}) {
                change(log, part);
            }
            due.same("asked, with a new twin", asked, newTwin(part), 2);
        }
        due.is("trim(0, 0)", asked.trim(0, 0), twin.trim(0, 0));
        due.is("commit(9)", asked.commit(9), twin.commit(9));
        due.is("bring(0, 1)", asked.bring(0, 1), twin.bring(0, 1));
        due.is("write", asked.write(1, TentativeLog.SET, 0, 9), twin.write(1, TentativeLog.SET, 0, 9));
        for (int c = 0; c < 8; c++) {
            due.is("cell(1, " + c + ")", asked.cell(1, c), twin.cell(1, c));
            due.is("stable(1, " + c + ")", asked.stable(1, c), twin.stable(1, c));
        }
    }

    private static void questionsChangeNoClock() {
        due.clocks("asked everything", TermsTest::askedEverything, 3, 2, 0);
    }

    private static TentativeLog askedEverything() {
        TentativeLog log = fiveWrites();
        due.same("asked everything", log, fiveWrites(), 3);
        return log;
    }

    private static TentativeLog fiveWrites() {
        TentativeLog log = new TentativeLog(4);
        for (int n = 0; n < 5; n++) {
            log.write(n & 1, TentativeLog.ADD, 3, n);
        }
        return log;
    }

    private static TentativeLog newTwin(int part) {
        TentativeLog twin = new TentativeLog(2);
        for (int p = 0; p <= part; p++) {
            change(twin, p);
        }
        return twin;
    }

    private static void change(TentativeLog log, int part) {
        log.write(1, TentativeLog.CLAIM, part, 5 + part);
        log.write(0, TentativeLog.ADD, part, 3);
        log.bring(1, 0);
        log.write(0, TentativeLog.TAKE, part, 4);
        log.commit(part);
        log.trim(0, part);
    }
}
