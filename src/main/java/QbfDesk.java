public final class QbfDesk {
    private static final int VARIABLES = 8;
    private static final int CLAUSES = 20;
    private static final int POSITIONS = 512;
    private static final int FIRST_FULL = 256;
    private static final int EMPTY = 1;
    private static final int LITERALS = 0xFFFF;
    private static final int NO_CLAUSE = -1;

    private final int[] clauses = new int[CLAUSES];
    private final int[] wins = new int[POSITIONS];
    private int held;
    private int breakers;

    public QbfDesk() {
        held = 0;
        breakers = 0;
    }

    public void give(int v, boolean maker) {
        int bit = 1 << (v & 7);
        breakers = maker ? breakers & ~bit : breakers | bit;
    }

    public int add(int clause) {
        if (held >= CLAUSES) {
            return -1;
        }
        clauses[held] = clause & LITERALS;
        held++;
        return held;
    }

    public int drop(int number) {
        if (!isHeld(number)) {
            return -1;
        }
        for (int i = number; i < held - 1; i++) {
            clauses[i] = clauses[i + 1];
        }
        held--;
        return held;
    }

    public int won(int position) {
        if (position < EMPTY || position >= POSITIONS) {
            return -1;
        }
        solve(breakers, NO_CLAUSE);
        return wins[position];
    }

    public int choice(int position) {
        if (position < EMPTY || position >= FIRST_FULL) {
            return -1;
        }
        solve(breakers, NO_CLAUSE);
        int k = valuesIn(position);
        int wanted = isBreakers(breakers, k) ? 0 : 1;
        if (wins[2 * position] == wanted) {
            return 0;
        }
        return wins[2 * position + 1] == wanted ? 1 : 2;
    }

    public int count(int k) {
        if (k < 0 || k > VARIABLES) {
            return -1;
        }
        solve(breakers, NO_CLAUSE);
        int sum = 0;
        for (int position = 1 << k; position < 2 << k; position++) {
            sum += wins[position];
        }
        return sum;
    }

    // A position that is won stays won with a clause less, so "or is won" needs no look of its own.
    public int spare(int number) {
        if (!isHeld(number)) {
            return -1;
        }
        solve(breakers, number);
        return wins[EMPTY];
    }

    public int swapped(int v) {
        solve(breakers ^ (1 << (v & 7)), NO_CLAUSE);
        return wins[EMPTY];
    }

    private boolean isHeld(int number) {
        return number >= 0 && number < held;
    }

    private static boolean isBreakers(int owners, int v) {
        return ((owners >> v) & 1) == 1;
    }

    private static int valuesIn(int position) {
        int k = 0;
        while (k < VARIABLES && position >= 2 << k) {
            k++;
        }
        return k;
    }

    // Goes from the full positions back to the empty one, so that both positions that a choice
    // leads to are known before it is judged.
    private void solve(int owners, int leftOut) {
        for (int position = FIRST_FULL; position < POSITIONS; position++) {
            wins[position] = allHold(position, leftOut) ? 1 : 0;
        }
        for (int k = VARIABLES - 1; k >= 0; k--) {
            boolean breaker = isBreakers(owners, k);
            for (int position = 1 << k; position < 2 << k; position++) {
                int zero = wins[2 * position];
                int one = wins[2 * position + 1];
                wins[position] = breaker ? zero & one : zero | one;
            }
        }
    }

    private boolean allHold(int position, int leftOut) {
        int so = literalsThatAreSo(position);
        for (int i = 0; i < held; i++) {
            if (i != leftOut && (clauses[i] & so) == 0) {
                return false;
            }
        }
        return true;
    }

    private static int literalsThatAreSo(int position) {
        int so = 0;
        for (int v = 0; v < VARIABLES; v++) {
            int value = (position >> (VARIABLES - 1 - v)) & 1;
            so |= 1 << (2 * v + 1 - value);
        }
        return so;
    }
}
