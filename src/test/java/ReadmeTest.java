/** What README.md says of the class: its example, row by row, and how it says things are written. */
public final class ReadmeTest {
    private static final Checks CHECKS = new Checks();

    private static void due(String call, long got, long want) {
        CHECKS.due("README: " + call, got, want);
    }

    public static void main(String[] args) {
        example();
        clausesAreSumsOfBits();
        positionsAreDigits();
        answersAloneChangeNothing();
        CHECKS.end();
    }

    private static void example() {
        QbfDesk desk = new QbfDesk();
        due("add(5)", desk.add(5), 1);
        due("add(10)", desk.add(10), 2);
        desk.give(0, false);
        due("won(1)", desk.won(1), 1);
        due("choice(2)", desk.choice(2), 1);
        due("count(8)", desk.count(8), 128);
        due("spare(0)", desk.spare(0), 1);
        due("swapped(1)", desk.swapped(1), 0);
        due("drop(0)", desk.drop(0), 1);
        due("drop(1)", desk.drop(1), -1);
    }

    private static void clausesAreSumsOfBits() {
        for (int v = 0; v < 8; v++) {
            int row = 256 + (128 >> v);
            QbfDesk one = new QbfDesk();
            one.add(1 << (2 * v));
            due("variable " + v + " is 1", one.won(row), 1);
            due("variable " + v + " is not 1", one.won(256), 0);
            QbfDesk zero = new QbfDesk();
            zero.add(1 << (2 * v + 1));
            due("variable " + v + " is 0", zero.won(256), 1);
            due("variable " + v + " is not 0", zero.won(row), 0);
        }
        QbfDesk never = new QbfDesk();
        never.add(0);
        due("the clause 0 never holds", never.count(8), 0);
    }

    private static void positionsAreDigits() {
        QbfDesk desk = new QbfDesk();
        desk.add(1 << 1);
        desk.add(1 << 2);
        due("won(0b101)", desk.won(0b101), 1);
        due("won(0b100)", desk.won(0b100), 0);
        due("won(0b110)", desk.won(0b110), 0);
        due("won(0b111)", desk.won(0b111), 0);
    }

    private static void answersAloneChangeNothing() {
        QbfDesk asked = lostByOneClause();
        for (int number = -1; number <= 9; number++) {
            asked.won(number);
            asked.choice(number);
            asked.count(number);
            asked.spare(number);
            asked.swapped(number);
        }
        QbfDesk fresh = lostByOneClause();
        for (int position = 1; position < 256; position++) {
            due("won(" + position + ") after questions", asked.won(position), fresh.won(position));
        }
        for (int v = 0; v < 8; v++) {
            due("swapped(" + v + ") after questions", asked.swapped(v), fresh.swapped(v));
        }
        due("add after questions", asked.add(0), fresh.add(0));
    }

    private static QbfDesk lostByOneClause() {
        QbfDesk desk = new QbfDesk();
        desk.give(3, false);
        desk.add(1 << 6);
        desk.add(1 << 4 | 1 << 8);
        return desk;
    }
}
