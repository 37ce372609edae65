/** Long mixed runs of calls, each answer compared with a model that follows the document's words. */
public final class ModelTest {
    private static final Checks CHECKS = new Checks();
    private static final int RUNS = 400;
    private static final int CALLS = 512;

    private static long state;

    // Always the same row of numbers, so that a run that fails once fails each time.
    private static int next(int bound) {
        state = state * 6364136223846793005L + 1442695040888963407L;
        return (int) ((state >>> 33) % bound);
    }

    private static int clause() {
        int literals = 1 + next(4);
        int clause = next(4) == 0 ? next(1 << 15) << 16 : 0;
        for (int i = 0; i < literals; i++) {
            clause |= 1 << next(16);
        }
        return clause;
    }

    public static void main(String[] args) {
        for (int run = 0; run < RUNS; run++) {
            state = run;
            oneRun(run);
        }
        CHECKS.end();
    }

    private static void oneRun(int run) {
        QbfDesk desk = new QbfDesk();
        Model model = new Model();
        int dropsInTwenty = run % 4;
        for (int i = 0; i < CALLS; i++) {
            oneCall("run " + run + ", call " + i + ": ", desk, model, dropsInTwenty);
        }
    }

    private static void oneCall(String where, QbfDesk desk, Model model, int dropsInTwenty) {
        int kind = next(20);
        if (kind < dropsInTwenty) {
            int number = next(24) - 2;
            CHECKS.due(where + "drop(" + number + ")", desk.drop(number), model.drop(number));
        } else if (kind < 5) {
            int clause = clause();
            CHECKS.due(where + "add(" + clause + ")", desk.add(clause), model.add(clause));
        } else if (kind < 8) {
            int v = next(32) - 16;
            boolean maker = next(2) == 0;
            desk.give(v, maker);
            model.give(v, maker);
        } else if (kind < 11) {
            int position = next(520) - 4;
            CHECKS.due(where + "won(" + position + ")", desk.won(position), model.won(position));
        } else if (kind < 14) {
            int position = next(264) - 4;
            CHECKS.due(where + "choice(" + position + ")", desk.choice(position), model.choice(position));
        } else if (kind < 16) {
            int k = next(11) - 1;
            CHECKS.due(where + "count(" + k + ")", desk.count(k), model.count(k));
        } else if (kind < 18) {
            int number = next(24) - 2;
            CHECKS.due(where + "spare(" + number + ")", desk.spare(number), model.spare(number));
        } else {
            int v = next(32) - 16;
            CHECKS.due(where + "swapped(" + v + ")", desk.swapped(v), model.swapped(v));
        }
    }
}
