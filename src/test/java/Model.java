import java.util.ArrayList;
import java.util.List;

/** Answers as the document says, by its own words and without regard to speed. */
final class Model {
    private final boolean[] maker = {true, true, true, true, true, true, true, true};
    private final List<Integer> clauses = new ArrayList<>();

    boolean isWon(String values) {
        int k = values.length();
        if (k == 8) {
            return clauses.stream().allMatch(clause -> holds(clause, values));
        }
        boolean zero = isWon(values + "0");
        boolean one = isWon(values + "1");
        return maker[k] ? zero || one : zero && one;
    }

    private static boolean holds(int clause, String values) {
        for (int v = 0; v < 8; v++) {
            int literal = values.charAt(v) == '1' ? 2 * v : 2 * v + 1;
            if ((clause >> literal) % 2 != 0) {
                return true;
            }
        }
        return false;
    }

    void give(int v, boolean isMakers) {
        maker[v & 7] = isMakers;
    }

    int add(int clause) {
        if (clauses.size() == 20) {
            return -1;
        }
        clauses.add(clause);
        return clauses.size();
    }

    int drop(int number) {
        if (number < 0 || number >= clauses.size()) {
            return -1;
        }
        clauses.remove(number);
        return clauses.size();
    }

    int won(int position) {
        if (position < 1 || position > 511) {
            return -1;
        }
        return isWon(Integer.toBinaryString(position).substring(1)) ? 1 : 0;
    }

    int choice(int position) {
        if (position < 1 || position > 255) {
            return -1;
        }
        String values = Integer.toBinaryString(position).substring(1);
        boolean wanted = maker[values.length()];
        if (isWon(values + "0") == wanted) {
            return 0;
        }
        return isWon(values + "1") == wanted ? 1 : 2;
    }

    int count(int k) {
        if (k < 0 || k > 8) {
            return -1;
        }
        int sum = 0;
        for (int position = 1; position < 512; position++) {
            if (Integer.toBinaryString(position).length() == k + 1) {
                sum += won(position);
            }
        }
        return sum;
    }

    int spare(int number) {
        if (number < 0 || number >= clauses.size()) {
            return -1;
        }
        boolean now = isWon("");
        int clause = clauses.remove(number);
        boolean without = isWon("");
        clauses.add(number, clause);
        return now || without ? 1 : 0;
    }

    int swapped(int v) {
        maker[v & 7] = !maker[v & 7];
        boolean won = isWon("");
        maker[v & 7] = !maker[v & 7];
        return won ? 1 : 0;
    }
}
