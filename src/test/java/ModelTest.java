import java.util.ArrayList;
import java.util.List;

/** Long mixed runs of calls, each answer compared with a model that follows the document's words. */
public final class ModelTest {
    private static final Checks CHECKS = new Checks();
    private static final int RUNS = 400;
    private static final int CALLS = 512;

    private static final class Model {
        private final boolean[] maker = {true, true, true, true, true, true, true, true};
        private final List<Integer> clauses = new ArrayList<>();

        boolean isWon(String values) {
            int k = values.length();
            if (k == 8) {
                return clauses.stream().allMatch(clause -> holds(clause, values));
            }
            boolean zero = isWon(values + "0");
            boolean one = isWon(values + "1");
            return maker[k] ? zero || one : zero && one;
        }

        private static boolean holds(int clause, String values) {
            for (int v = 0; v < 8; v++) {
                int literal = values.charAt(v) == '1' ? 2 * v : 2 * v + 1;
                if ((clause >> literal) % 2 != 0) {
                    return true;
                }
            }
            return false;
        }

        int add(int clause) {
            if (clauses.size() == 20) {
                return -1;
            }
            clauses.add(clause);
            return clauses.size();
        }

        int drop(int number) {
            if (number < 0 || number >= clauses.size()) {
                return -1;
            }
            clauses.remove(number);
            return clauses.size();
        }

        int won(int position) {
            if (position < 1 || position > 511) {
                return -1;
            }
            return isWon(Integer.toBinaryString(position).substring(1)) ? 1 : 0;
        }

        int choice(int position) {
            if (position < 1 || position > 255) {
                return -1;
            }
            String values = Integer.toBinaryString(position).substring(1);
            boolean wanted = maker[values.length()];
            if (isWon(values + "0") == wanted) {
                return 0;
            }
            return isWon(values + "1") == wanted ? 1 : 2;
        }

        int count(int k) {
            if (k < 0 || k > 8) {
                return -1;
            }
            int sum = 0;
            for (int position = 1; position < 512; position++) {
                if (Integer.toBinaryString(position).length() == k + 1) {
                    sum += won(position);
                }
            }
            return sum;
        }

        int spare(int number) {
            if (number < 0 || number >= clauses.size()) {
                return -1;
            }
            boolean now = isWon("");
            int clause = clauses.remove(number);
            boolean without = isWon("");
            clauses.add(number, clause);
            return now || without ? 1 : 0;
        }

        int swapped(int v) {
            maker[v & 7] = !maker[v & 7];
            boolean won = isWon("");
            maker[v & 7] = !maker[v & 7];
            return won ? 1 : 0;
        }
    }

    private static long state;

    // Always the same row of numbers, so that a run that fails once fails each time.
    private static int next(int bound) {
        state = state * 6364136223846793005L + 1442695040888963407L;
        return (int) ((state >>> 33) % bound);
    }

    private static int clause() {
        int literals = 1 + next(4);
        int clause = next(4) == 0 ? next(1 << 15) << 16 : 0;
        for (int i = 0; i < literals; i++) {
            clause |= 1 << next(16);
        }
        return clause;
    }

    public static void main(String[] args) {
        for (int run = 0; run < RUNS; run++) {
            state = run;
            oneRun(run);
        }
        CHECKS.end();
    }

    private static void oneRun(int run) {
        QbfDesk desk = new QbfDesk();
        Model model = new Model();
        int dropsInTwenty = run % 4;
        for (int i = 0; i < CALLS; i++) {
            oneCall("run " + run + ", call " + i + ": ", desk, model, dropsInTwenty);
        }
    }

    private static void oneCall(String where, QbfDesk desk, Model model, int dropsInTwenty) {
        int kind = next(20);
        if (kind < dropsInTwenty) {
            int number = next(24) - 2;
            CHECKS.due(where + "drop(" + number + ")", desk.drop(number), model.drop(number));
        } else if (kind < 5) {
            int clause = clause();
            CHECKS.due(where + "add(" + clause + ")", desk.add(clause), model.add(clause));
        } else if (kind < 8) {
            int v = next(32) - 16;
            boolean maker = next(2) == 0;
            desk.give(v, maker);
            model.maker[v & 7] = maker;
        } else if (kind < 11) {
            int position = next(520) - 4;
            CHECKS.due(where + "won(" + position + ")", desk.won(position), model.won(position));
        } else if (kind < 14) {
            int position = next(264) - 4;
            CHECKS.due(where + "choice(" + position + ")", desk.choice(position), model.choice(position));
        } else if (kind < 16) {
            int k = next(11) - 1;
            CHECKS.due(where + "count(" + k + ")", desk.count(k), model.count(k));
        } else if (kind < 18) {
            int number = next(24) - 2;
            CHECKS.due(where + "spare(" + number + ")", desk.spare(number), model.spare(number));
        } else {
            int v = next(32) - 16;
            CHECKS.due(where + "swapped(" + v + ")", desk.swapped(v), model.swapped(v));
        }
    }
}
