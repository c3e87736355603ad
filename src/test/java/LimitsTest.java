/** The 512 calls of an object, and arguments from all ends in every state: nothing throws, nothing slips. */
public final class LimitsTest {
    private static final int MOST_CALLS = 512;
    private static final int ROOM = 48;
    private static final int[] ENDS = {Integer.MIN_VALUE, -1, 0, 1, 3, 5, 8, 48, 64, Integer.MAX_VALUE};
    private static final Due due = new Due();

    public static void main(String[] args) {
        due.under("An object is used for at most 512 calls after it has been made", LimitsTest::allCalls);
        due.under("LANGUAGE.md 7: No call may ever throw or fail to end, for any arguments in any state",
                LimitsTest::allEnds);
        due.end();
    }

    /** Every kind of call in turn, up to the 512th, held against the model. */
    private static void allCalls() {
        for (int replicas = 2; replicas <= 4; replicas++) {
            TentativeLog log = new TentativeLog(replicas);
            Model model = new Model(replicas);
            for (int call = 1; call <= MOST_CALLS; call++) {
                int a = call / 9 % replicas;
                int b = (a + 1) % replicas;
                int kind = call % 6;
                int c = call & 7;
                String name = replicas + " replicas: call " + call;
                switch (call % 9) {
                    case 0 -> due.is(name, log.write(a, kind, c, call), model.write(a, kind, c, call));
                    case 1 -> due.is(name, log.bring(a, b), model.bring(a, b));
                    case 2 -> due.is(name, log.commit(call / 9 & 1), model.commit(call / 9 & 1));
                    case 3 -> due.is(name, log.trim(a, call / 20), model.trim(a, call / 20));
                    case 4 -> due.is(name, log.cell(b, c), model.cell(b, c));
                    case 5 -> due.is(name, log.stable(a, c), model.stable(a, c));
                    case 6 -> due.is(name, log.known(b), model.known(b));
                    case 7 -> due.is(name, log.committed(b), model.committed(b));
                    default -> due.is(name, log.standing(b, call % 50), model.standing(b, call % 50));
                }
            }
        }
    }

    private static void allEnds() {
        for (int state = 0; state < 4; state++) {
            for (int a : ENDS) {
                TentativeLog log = inState(state);
                Model model = modelInState(state);
                for (int b : ENDS) {
                    String of = "state " + state + ": (" + a + ", " + b + ")";
                    due.is("write" + of, log.write(a, 1, b, a), model.write(a, 1, b, a));
                    due.is("write of kind" + of, log.write(1, a, b, b), model.write(1, a, b, b));
                    due.is("bring" + of, log.bring(a, b), model.bring(a, b));
                    due.is("trim" + of, log.trim(a, b), model.trim(a, b));
                    due.is("cell" + of, log.cell(a, b), model.cell(a, b));
                    due.is("stable" + of, log.stable(a, b), model.stable(a, b));
                    due.is("standing" + of, log.standing(a, b), model.standing(a, b));
                    due.is("known" + of, log.known(a), model.known(a));
                    due.is("committed" + of, log.committed(a), model.committed(a));
                }
                due.is("state " + state + ": commit(" + a + ")", log.commit(a), model.commit(a));
            }
        }
    }

    /** New; in use; full; full and committed. */
    private static TentativeLog inState(int state) {
        TentativeLog log = new TentativeLog(4);
        for (int n = 0; n < writesIn(state); n++) {
            log.write(n % 4, n % 6, n & 7, n);
        }
        for (int r = 1; r < 4 && state > 0; r++) {
            log.bring(r, 0);
        }
        log.commit(commitsIn(state));
        return log;
    }

    private static Model modelInState(int state) {
        Model model = new Model(4);
        for (int n = 0; n < writesIn(state); n++) {
            model.write(n % 4, n % 6, n & 7, n);
        }
        for (int r = 1; r < 4 && state > 0; r++) {
            model.bring(r, 0);
        }
        model.commit(commitsIn(state));
        return model;
    }

    private static int writesIn(int state) {
        return state == 0 ? 0 : state == 1 ? 10 : ROOM;
    }

    private static int commitsIn(int state) {
        return state == 0 ? 0 : state == 1 ? 4 : state == 2 ? 20 : ROOM;
    }
}
