import java.util.Random;

/**
 * Promises 1 to 10 together: long runs of mixed calls, the same each time, on the program and on
 * the model. A run and the look at everything behind it stay within the document's 512 calls.
 */
public final class ModelTest {
    private static final int RUNS = 4000;
    private static final int MOST_CALLS = 220;
    private static final int[] EDGES = {Integer.MIN_VALUE, Integer.MIN_VALUE + 1, Integer.MAX_VALUE, 0, -1};
    private static final int WRONG_SHOWN = 20;

    private final Random random;
    private final TentativeLog log;
    private final Model model;
    private final int replicas;
    private final int wrongInputs;
    private final StringBuilder calls = new StringBuilder();
    private boolean wrong = false;

    private ModelTest(int seed) {
        random = new Random(seed);
        int asked = random.nextInt(8) - 1;
        replicas = Math.max(2, Math.min(4, asked));
        wrongInputs = random.nextInt(3) * 4;
        log = new TentativeLog(asked);
        model = new Model(asked);
        calls.append("new TentativeLog(").append(asked).append(')');
    }

    public static void main(String[] args) {
        int wrongRuns = 0;
        for (int seed = 0; seed < RUNS; seed++) {
            ModelTest run = new ModelTest(seed);
            run.play();
            if (run.wrong) {
                wrongRuns++;
                if (wrongRuns <= WRONG_SHOWN) {
                    System.out.println("run " + seed + ": " + run.calls);
                }
            }
        }
        System.out.println(wrongRuns == 0 ? "all answers are as due" : wrongRuns + " runs are not as due");
        if (wrongRuns != 0) {
            System.exit(1);
        }
    }

    private void play() {
        int length = random.nextInt(MOST_CALLS);
        for (int i = 0; i < length && !wrong; i++) {
            anyCall();
        }
        for (int r = -1; r <= replicas && !wrong; r++) {
            lookAt(r);
        }
    }

    private void anyCall() {
        int a = replica();
        int b = replica();
        int c = cell();
        switch (random.nextInt(16)) {
            case 0, 1, 2, 3 -> {
                int kind = odd() ? random.nextInt(10) - 2 : random.nextInt(6);
                int v = value();
                due("write(" + a + ", " + kind + ", " + c + ", " + v + ")",
                        log.write(a, kind, c, v), model.write(a, kind, c, v));
            }
            case 4, 5, 6, 7 -> due("bring(" + a + ", " + b + ")", log.bring(a, b), model.bring(a, b));
            case 8, 9 -> {
                int n = random.nextInt(20) == 0 ? 60 : random.nextInt(5) - 1;
                due("commit(" + n + ")", log.commit(n), model.commit(n));
            }
            case 10 -> {
                int n = odd() ? value() : random.nextInt(12);
                due("trim(" + a + ", " + n + ")", log.trim(a, n), model.trim(a, n));
            }
            case 11 -> due("cell(" + a + ", " + c + ")", log.cell(a, c), model.cell(a, c));
            case 12 -> due("stable(" + a + ", " + c + ")", log.stable(a, c), model.stable(a, c));
            case 13 -> due("known(" + a + ")", log.known(a), model.known(a));
            case 14 -> due("committed(" + a + ")", log.committed(a), model.committed(a));
            default -> {
                int n = odd() ? value() : random.nextInt(50);
                due("standing(" + a + ", " + n + ")", log.standing(a, n), model.standing(a, n));
            }
        }
    }

    private void lookAt(int r) {
        due("known(" + r + ")", log.known(r), model.known(r));
        due("committed(" + r + ")", log.committed(r), model.committed(r));
        if (r < 0 || r == replicas) {
            return;
        }
        for (int c = 0; c < 8; c++) {
            due("cell(" + r + ", " + c + ")", log.cell(r, c), model.cell(r, c));
            due("stable(" + r + ", " + c + ")", log.stable(r, c), model.stable(r, c));
        }
        for (int n = 0; n <= 48; n++) {
            due("standing(" + r + ", " + n + ")", log.standing(r, n), model.standing(r, n));
        }
    }

    /** Some runs hold no wrong input at all, so that they get further. */
    private boolean odd() {
        return random.nextInt(100) < wrongInputs;
    }

    private int replica() {
        return odd() ? random.nextInt(8) - 2 : random.nextInt(replicas);
    }

    private int cell() {
        return odd() ? random.nextInt(14) - 3 : random.nextInt(8);
    }

    private int value() {
        return random.nextInt(12) == 0 ? EDGES[random.nextInt(EDGES.length)] : random.nextInt(10) - 3;
    }

    private void due(String call, int got, int want) {
        calls.append("; ").append(call).append(" = ").append(got);
        if (got != want && !wrong) {
            wrong = true;
            calls.append(" WRONG, due is ").append(want);
        }
    }
}
