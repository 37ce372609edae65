import java.util.ArrayList;
import java.util.List;

/**
 * A call that is refused (its answer is -1) leaves no trace: later calls answer as if it had not been made.
 * The sentences: Promise 3 "-1 if there are 20", Promise 4 "-1 if there is none", Promise 5 "-1 if it is not
 * from 1 to 511", Promise 6 "-1 if position is not from 1 to 255", Promise 7 "-1 if k is out of range",
 * Promise 8 "-1 if there is no such clause".
 */
public final class RefusedCallTest {
    private static final Checks CHECKS = new Checks();
    private static final String[] KINDS = {"add", "drop", "won", "choice", "count", "spare"};
    private static final int[] ARGUMENTS = {
        Integer.MIN_VALUE, Integer.MIN_VALUE + 1, -65536, -512, -31, -2, -1, 0, 1, 2, 3, 4, 9, 19, 20, 21, 32,
        255, 256, 257, 511, 512, 513, 1023, 65535, 65536, 65537, Integer.MAX_VALUE - 1, Integer.MAX_VALUE
    };
    // With what makes a desk, this stays below the 512 calls that the document promises.
    private static final int QUESTIONS_OF_ONE_DESK = 400;

    /** How a desk is made: the variables of BREAKER, the clauses added, the numbers dropped. */
    private record Start(String name, int breakers, int[] clauses, int[] drops) {
        QbfDesk desk() {
            QbfDesk desk = new QbfDesk();
            for (int v = 0; v < 8; v++) {
                desk.give(v, (breakers >> v & 1) == 0);
            }
            for (int clause : clauses) {
                desk.add(clause);
            }
            for (int number : drops) {
                desk.drop(number);
            }
            return desk;
        }

        Model model() {
            Model model = new Model();
            for (int v = 0; v < 8; v++) {
                model.give(v, (breakers >> v & 1) == 0);
            }
            for (int clause : clauses) {
                model.add(clause);
            }
            for (int number : drops) {
                model.drop(number);
            }
            return model;
        }
    }

    private static final int[] MIXED = {
        0x0009, 0x0006, 0x0090, 0x0060, 0x0900, 0x0600, 0x9000, 0x6000, 0x0111, 0x4440,
        0x8001, 0x4002, 0x1818, 0x2424, 0x0FF0, 0xF00F, 0x5555, 0xAAAA, 0xFFFF, 0x1248
    };

    private static final Start[] STARTS = {
        new Start("no clause", 0, new int[] {}, new int[] {}),
        new Start("no clause, BREAKER has all", 255, new int[] {}, new int[] {}),
        new Start("one clause", 0b00000001, new int[] {0x0009}, new int[] {}),
        new Start("one that never holds", 0b10000000, new int[] {0}, new int[] {}),
        new Start("emptied", 0b01010101, new int[] {0, 0x4000, 0}, new int[] {2, 0, 0}),
        new Start("four left of six", 0b00010101, new int[] {0x0009, 0, 0x0006, 0x0090, 0x0060, 0},
            new int[] {5, 1}),
        new Start("nineteen left of twenty", 0b01010001, MIXED, new int[] {7}),
        new Start("twenty", 0b01010101, MIXED, new int[] {}),
        new Start("twenty, MAKER has all", 0, MIXED, new int[] {}),
    };

    private record Question(String kind, int argument) {
    }

    private static final Question[] QUESTIONS = questions();

    public static void main(String[] args) {
        for (Start start : STARTS) {
            int[] due = answersOf(start.model());
            for (String kind : KINDS) {
                for (int argument : ARGUMENTS) {
                    if (ask(start.model(), kind, argument) == -1) {
                        refuse(start, kind, argument, due);
                    }
                }
            }
        }
        CHECKS.end();
    }

    private static void refuse(Start start, String kind, int argument, int[] due) {
        String where = start.name() + ", " + kind + "(" + argument + ")";
        CHECKS.due(where, ask(start.desk(), kind, argument), -1);
        compareQuestions(where, start, kind, argument, due);
        compareChanges(where, start, kind, argument);
    }

    private static QbfDesk deskAfter(Start start, String kind, int argument) {
        QbfDesk desk = start.desk();
        ask(desk, kind, argument);
        return desk;
    }

    private static void compareQuestions(String where, Start start, String kind, int argument, int[] due) {
        QbfDesk desk = null;
        for (int i = 0; i < due.length; i++) {
            if (i % QUESTIONS_OF_ONE_DESK == 0) {
                desk = deskAfter(start, kind, argument);
            }
            Question question = QUESTIONS[i];
            CHECKS.due(where + ", then " + question, ask(desk, question.kind(), question.argument()), due[i]);
        }
    }

    /** Calls that change the state find the same state to change. */
    private static void compareChanges(String where, Start start, String kind, int argument) {
        QbfDesk desk = deskAfter(start, kind, argument);
        Model model = start.model();
        compareRow(where + ", then", desk, model);
        CHECKS.due(where + ", then add(260)", desk.add(260), model.add(260));
        compareRow(where + ", then add(260),", desk, model);
        desk.give(2, false);
        model.give(2, false);
        compareRow(where + ", then give(2, false),", desk, model);
        for (int i = 0; i <= 20; i++) {
            CHECKS.due(where + ", then drop(0)", desk.drop(0), model.drop(0));
            CHECKS.due(where + ", then count(8)", desk.count(8), model.count(8));
        }
        CHECKS.due(where + ", then add(16)", desk.add(16), model.add(16));
        compareRow(where + ", then add(16) to none,", desk, model);
    }

    private static void compareRow(String where, QbfDesk desk, Model model) {
        for (int k = 0; k <= 8; k++) {
            CHECKS.due(where + " count(" + k + ")", desk.count(k), model.count(k));
        }
        for (int number = 0; number <= 20; number++) {
            CHECKS.due(where + " spare(" + number + ")", desk.spare(number), model.spare(number));
        }
        for (int v = 0; v < 8; v++) {
            CHECKS.due(where + " swapped(" + v + ")", desk.swapped(v), model.swapped(v));
        }
    }

    private static Question[] questions() {
        List<Question> all = new ArrayList<>();
        for (int position = 0; position <= 512; position++) {
            all.add(new Question("won", position));
        }
        for (int position = 0; position <= 256; position++) {
            all.add(new Question("choice", position));
        }
        for (int k = -1; k <= 9; k++) {
            all.add(new Question("count", k));
        }
        for (int number = -1; number <= 20; number++) {
            all.add(new Question("spare", number));
        }
        for (int v = 0; v < 8; v++) {
            all.add(new Question("swapped", v));
        }
        return all.toArray(new Question[0]);
    }

    private static int[] answersOf(Model model) {
        int[] answers = new int[QUESTIONS.length];
        for (int i = 0; i < answers.length; i++) {
            answers[i] = ask(model, QUESTIONS[i].kind(), QUESTIONS[i].argument());
        }
        return answers;
    }

    private static int ask(QbfDesk desk, String kind, int argument) {
        return switch (kind) {
            case "add" -> desk.add(argument);
            case "drop" -> desk.drop(argument);
            case "won" -> desk.won(argument);
            case "choice" -> desk.choice(argument);
            case "count" -> desk.count(argument);
            case "spare" -> desk.spare(argument);
            default -> desk.swapped(argument);
        };
    }

    private static int ask(Model model, String kind, int argument) {
        return switch (kind) {
            case "add" -> model.add(argument);
            case "drop" -> model.drop(argument);
            case "won" -> model.won(argument);
            case "choice" -> model.choice(argument);
            case "count" -> model.count(argument);
            case "spare" -> model.spare(argument);
            default -> model.swapped(argument);
        };
    }
}
