/** Each promise of the document with ordinary inputs, its edges and wrong inputs. */
public final class PromisesTest {
    private static final Checks CHECKS = new Checks();
    private static final int[] WILD = {
        Integer.MIN_VALUE, Integer.MIN_VALUE + 1, -65536, -513, -1, 512, 513, 65536, Integer.MAX_VALUE
    };

    private static void due(String call, long got, long want) {
        CHECKS.due(call, got, want);
    }

    private static int is(int v, int value) {
        return 1 << (2 * v + 1 - value);
    }

    private static QbfDesk withClauses(int... clauses) {
        QbfDesk desk = new QbfDesk();
        for (int clause : clauses) {
            desk.add(clause);
        }
        return desk;
    }

    public static void main(String[] args) {
        newObject();
        newObjectsAreApart();
        give();
        giveLooksAtThreeBits();
        add();
        addLooksAtSixteenBits();
        addWhenFull();
        drop();
        dropWithoutClause();
        won();
        wonReadsValuesInOrder();
        wonOutOfRange();
        choiceOfMaker();
        choiceOfBreaker();
        choiceOutOfRange();
        count();
        countOutOfRange();
        spare();
        spareWithoutClause();
        swapped();
        CHECKS.end();
    }

    private static void newObject() {
        QbfDesk desk = new QbfDesk();
        for (int k = 0; k <= 8; k++) {
            due("1: count(" + k + ")", desk.count(k), 1 << k);
        }
        due("1: drop(0)", desk.drop(0), -1);
        for (int v = 0; v < 8; v++) {
            for (int value = 0; value < 2; value++) {
                due("1: maker has " + v, withClauses(is(v, value)).won(1), 1);
                due("1: maker had " + v, withClauses(is(v, value)).swapped(v), 0);
            }
        }
    }

    private static void newObjectsAreApart() {
        QbfDesk one = withClauses(0);
        one.give(0, false);
        QbfDesk other = new QbfDesk();
        due("1: other won(1)", other.won(1), 1);
        due("1: other add", other.add(is(0, 1)), 1);
        due("1: other won(1) with a clause", other.won(1), 1);
        due("1: one won(1)", one.won(1), 0);
    }

    private static void give() {
        for (int v = 0; v < 8; v++) {
            QbfDesk desk = withClauses(is(v, 1));
            desk.give(v, true);
            due("2: maker has " + v, desk.won(1), 1);
            desk.give(v, false);
            due("2: breaker has " + v, desk.won(1), 0);
            desk.give(v, false);
            due("2: breaker has still " + v, desk.won(1), 0);
            desk.give((v + 1) & 7, true);
            due("2: giving another than " + v, desk.won(1), 0);
            desk.give(v, true);
            due("2: maker has again " + v, desk.won(1), 1);
            desk.give((v + 1) & 7, false);
            due("2: breaker has another than " + v, desk.won(1), 1);
        }
    }

    private static void giveLooksAtThreeBits() {
        int[] threes = {3, 11, -5, Integer.MIN_VALUE + 3, Integer.MAX_VALUE - 4};
        for (int v : threes) {
            QbfDesk desk = withClauses(is(3, 0));
            desk.give(v, false);
            due("2: give(" + v + ", false)", desk.won(1), 0);
            desk.give(v, true);
            due("2: give(" + v + ", true)", desk.won(1), 1);
        }
    }

    private static void add() {
        QbfDesk desk = new QbfDesk();
        due("3: add one", desk.add(is(0, 1)), 1);
        due("3: count(8) with one", desk.count(8), 128);
        due("3: add it again", desk.add(is(0, 1)), 2);
        due("3: count(8) with it twice", desk.count(8), 128);
        due("3: add two literals", desk.add(is(3, 0) | is(7, 1)), 3);
        due("3: count(8) with three", desk.count(8), 96);
        due("3: add what always holds", desk.add(is(5, 0) | is(5, 1)), 4);
        due("3: count(8) with four", desk.count(8), 96);
        due("3: add the clause without literals", desk.add(0), 5);
        due("3: count(8) with five", desk.count(8), 0);
    }

    private static void addLooksAtSixteenBits() {
        due("3: add(65536) never holds", withClauses(65536).count(8), 0);
        due("3: add(-65536) never holds", withClauses(-65536).count(8), 0);
        due("3: add(MIN_VALUE) never holds", withClauses(Integer.MIN_VALUE).count(8), 0);
        due("3: add(-1) always holds", withClauses(-1).count(8), 256);
        due("3: add(65535) always holds", withClauses(65535).count(8), 256);
        due("3: add(65537) is add(1)", withClauses(65537).won(256), 0);
        due("3: add(65537) is add(1)", withClauses(65537).won(256 + 128), 1);
        due("3: add(32768) wants variable 7 to be 0", withClauses(32768).won(510), 1);
        due("3: add(32768) wants variable 7 to be 0", withClauses(32768).won(511), 0);
    }

    private static void addWhenFull() {
        QbfDesk desk = new QbfDesk();
        for (int i = 1; i <= 20; i++) {
            due("3: add number " + i, desk.add(-1), i);
        }
        due("3: add to twenty", desk.add(0), -1);
        due("3: add to twenty again", desk.add(0), -1);
        due("3: what was not added does not count", desk.won(1), 1);
        due("3: no clause 20", desk.spare(20), -1);
        due("3: drop(20) of twenty", desk.drop(20), -1);
        due("3: drop(19) of twenty", desk.drop(19), 19);
        due("3: add to nineteen", desk.add(0), 20);
        due("3: the twentieth counts", desk.won(1), 0);
        due("3: spare(19)", desk.spare(19), 1);
        due("3: spare(18)", desk.spare(18), 0);
        due("3: drop(0) of twenty", desk.drop(0), 19);
        due("3: the twentieth has moved", desk.spare(18), 1);
    }

    private static void drop() {
        QbfDesk desk = withClauses(is(0, 1), is(1, 1), 0, is(2, 1), is(3, 1));
        due("4: drop the middle one", desk.drop(2), 4);
        due("4: count(8) of the rest", desk.count(8), 16);
        due("4: drop(2) takes the one behind it", desk.drop(2), 3);
        due("4: variable 2 is free", desk.count(8), 32);
        due("4: 11010000 is won", desk.won(256 + 0b11010000), 1);
        due("4: 11100000 is not won", desk.won(256 + 0b11100000), 0);
        due("4: drop the last one", desk.drop(2), 2);
        due("4: 11000000 is won", desk.won(256 + 0b11000000), 1);
        due("4: drop the first one", desk.drop(0), 1);
        due("4: 01000000 is won", desk.won(256 + 0b01000000), 1);
        due("4: 10000000 is not won", desk.won(256 + 0b10000000), 0);
        due("4: add goes behind", desk.add(0), 2);
        due("4: drop the only other one", desk.drop(1), 1);
        due("4: drop(0) of one", desk.drop(0), 0);
        due("4: nothing is left", desk.count(8), 256);
        due("4: drop(0) of none", desk.drop(0), -1);
        due("4: add to none", desk.add(0), 1);
    }

    private static void dropWithoutClause() {
        QbfDesk desk = withClauses(is(0, 1), is(1, 1));
        due("4: drop(2) of two", desk.drop(2), -1);
        for (int number : WILD) {
            due("4: drop(" + number + ")", desk.drop(number), -1);
        }
        due("4: both are still held", desk.count(8), 64);
        due("4: and there are two", desk.add(-1), 3);
    }

    private static void won() {
        QbfDesk desk = withClauses(is(6, 1) | is(7, 0), is(6, 0) | is(7, 1));
        desk.give(6, false);
        due("5: maker follows", desk.won(1), 1);
        due("5: maker follows", desk.won(64), 1);
        due("5: maker follows 0", desk.won(128), 1);
        due("5: maker follows 1", desk.won(129), 1);
        due("5: 00", desk.won(256), 1);
        due("5: 01", desk.won(257), 0);
        due("5: 10", desk.won(258), 0);
        due("5: 11", desk.won(259), 1);
        desk.give(6, true);
        desk.give(7, false);
        due("5: breaker follows", desk.won(1), 0);
        due("5: breaker follows", desk.won(127), 0);
        due("5: breaker follows 0", desk.won(254), 0);
        due("5: breaker follows 1", desk.won(255), 0);
        due("5: 11 is won whoever chose it", desk.won(511), 1);
    }

    private static void wonReadsValuesInOrder() {
        for (int v = 0; v < 8; v++) {
            QbfDesk desk = withClauses(is(v, 1));
            due("5: only variable " + v + " is 1", desk.won(256 + (128 >> v)), 1);
            due("5: only variable " + v + " is 0", desk.won(511 - (128 >> v)), 0);
            due("5: chosen as 0 early, " + v, desk.won(2 << v), 0);
            due("5: chosen as 1 early, " + v, desk.won((2 << v) + 1), 1);
        }
    }

    private static void wonOutOfRange() {
        QbfDesk desk = new QbfDesk();
        due("5: won(0)", desk.won(0), -1);
        for (int position : WILD) {
            due("5: won(" + position + ")", desk.won(position), -1);
        }
        due("5: won(1)", desk.won(1), 1);
        due("5: won(511)", desk.won(511), 1);
    }

    private static void choiceOfMaker() {
        for (int v = 0; v < 8; v++) {
            choiceOfMakerIn(1 << v, v);
            choiceOfMakerIn((2 << v) - 1, v);
        }
    }

    private static void choiceOfMakerIn(int position, int v) {
        due("6: free, " + position, forMakerAlone(v).choice(position), 0);
        due("6: 0 alone wins, " + position, forMakerAlone(v, is(v, 0)).choice(position), 0);
        due("6: 1 alone wins, " + position, forMakerAlone(v, is(v, 1)).choice(position), 1);
        due("6: none wins, " + position, forMakerAlone(v, is(v, 1), is(v, 0)).choice(position), 2);
    }

    private static void choiceOfBreaker() {
        for (int v = 0; v < 8; v++) {
            choiceOfBreakerIn(1 << v, v);
            choiceOfBreakerIn((2 << v) - 1, v);
        }
    }

    private static void choiceOfBreakerIn(int position, int v) {
        due("6: none breaks, " + position, forBreakerAlone(v).choice(position), 2);
        due("6: 1 alone breaks, " + position, forBreakerAlone(v, is(v, 0)).choice(position), 1);
        due("6: 0 alone breaks, " + position, forBreakerAlone(v, is(v, 1)).choice(position), 0);
        due("6: both break, " + position, forBreakerAlone(v, 0).choice(position), 0);
    }

    private static QbfDesk forMakerAlone(int v, int... clauses) {
        QbfDesk desk = withClauses(clauses);
        for (int other = 0; other < 8; other++) {
            desk.give(other, other == v);
        }
        return desk;
    }

    private static QbfDesk forBreakerAlone(int v, int... clauses) {
        QbfDesk desk = withClauses(clauses);
        desk.give(v, false);
        return desk;
    }

    private static void choiceOutOfRange() {
        QbfDesk desk = new QbfDesk();
        due("6: choice(0)", desk.choice(0), -1);
        due("6: choice(256)", desk.choice(256), -1);
        due("6: choice(511)", desk.choice(511), -1);
        for (int position : WILD) {
            due("6: choice(" + position + ")", desk.choice(position), -1);
        }
        due("6: choice(1)", desk.choice(1), 0);
        due("6: choice(255)", desk.choice(255), 0);
    }

    private static void count() {
        QbfDesk desk = withClauses(is(2, 1) | is(5, 1));
        desk.give(5, false);
        int[] won = {1, 2, 4, 4, 8, 16, 48, 96, 192};
        for (int k = 0; k <= 8; k++) {
            due("7: count(" + k + ")", desk.count(k), won[k]);
        }
        desk.give(2, false);
        int[] wonThen = {0, 0, 0, 4, 8, 16, 48, 96, 192};
        for (int k = 0; k <= 8; k++) {
            due("7: count(" + k + ") then", desk.count(k), wonThen[k]);
        }
    }

    private static void countOutOfRange() {
        QbfDesk desk = new QbfDesk();
        due("7: count(9)", desk.count(9), -1);
        due("7: count(32)", desk.count(32), -1);
        due("7: count(-31)", desk.count(-31), -1);
        for (int k : WILD) {
            due("7: count(" + k + ")", desk.count(k), -1);
        }
    }

    private static void spare() {
        QbfDesk desk = withClauses(is(0, 1), is(1, 1), is(2, 1));
        due("8: won, so spare", desk.spare(1), 1);
        desk.give(1, false);
        due("8: lost for another clause, 0", desk.spare(0), 0);
        due("8: lost for this clause, 1", desk.spare(1), 1);
        due("8: lost for another clause, 2", desk.spare(2), 0);
        due("8: spare takes nothing out", desk.won(1), 0);
        due("8: spare changes no number", desk.spare(1), 1);
        desk.give(2, false);
        due("8: lost for two clauses, 1", desk.spare(1), 0);
        due("8: lost for two clauses, 2", desk.spare(2), 0);
        due("8: three are held", desk.add(-1), 4);
    }

    private static void spareWithoutClause() {
        QbfDesk desk = withClauses(-1);
        due("8: spare(1) of one", desk.spare(1), -1);
        due("8: spare(0) of one", desk.spare(0), 1);
        for (int number : WILD) {
            due("8: spare(" + number + ")", desk.spare(number), -1);
        }
        desk.drop(0);
        due("8: spare(0) of none", desk.spare(0), -1);
    }

    private static void swapped() {
        for (int v = 0; v < 8; v++) {
            QbfDesk desk = withClauses(is(v, 1));
            due("9: from maker, " + v, desk.swapped(v), 0);
            due("9: nothing was given, " + v, desk.won(1), 1);
            due("9: another one, " + v, desk.swapped(v + 1), 1);
            desk.give(v, false);
            due("9: from breaker, " + v, desk.swapped(v), 1);
            due("9: nothing was given back, " + v, desk.won(1), 0);
            due("9: another one of a lost one, " + v, desk.swapped(v + 1), 0);
            due("9: three bits alone, " + v, desk.swapped(v + 8), 1);
            due("9: three bits alone, " + v, desk.swapped(v - 8), 1);
            due("9: three bits alone, " + v, desk.swapped(Integer.MIN_VALUE + v), 1);
            due("9: three bits alone, " + v, desk.swapped(Integer.MAX_VALUE - 7 + v), 1);
        }
    }
}
