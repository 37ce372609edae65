/**
 * Each sentence of the document that names a boundary case, in the document's order. A test opens with the
 * words of its sentence, so that it can be found from them; RefusedCallTest holds what a refused call leaves.
 */
public final class BoundaryTest {
    private static final Checks CHECKS = new Checks();
    private static final int MIN = Integer.MIN_VALUE;
    private static final int MAX = Integer.MAX_VALUE;
    private static final int ALWAYS = 0xFFFF;
    private static final int NEVER = 0;
    private static final int CALLS = 512;
    private static final int[] FAR_OUT = {MIN, MIN + 1, MIN + 8, -65536, -65535, -512, -256, -2,
        1024, 65536, 65537, 65544, 1 << 30, MAX - 1, MAX};

    private static String sentence = "";

    private static void sentence(String place, String words) {
        sentence = place + ", \"" + words + "\": ";
    }

    private static void due(String call, long got, long want) {
        CHECKS.due(sentence + call, got, want);
    }

    public static void main(String[] args) {
        whatItIs();
        terms();
        promise1();
        promise2();
        promise3();
        promise4();
        promise5();
        promise6();
        promise7();
        promise8();
        promise9();
        CHECKS.end();
    }

    private static int is(int v, int value) {
        return 1 << (2 * v + 1 - value);
    }

    private static QbfDesk withClauses(int... clauses) {
        QbfDesk desk = new QbfDesk();
        for (int clause : clauses) {
            desk.add(clause);
        }
        return desk;
    }

    private static QbfDesk withCopies(int copies, int clause) {
        QbfDesk desk = new QbfDesk();
        for (int i = 0; i < copies; i++) {
            desk.add(clause);
        }
        return desk;
    }

    /** The desk with the given number of clauses of which the one with the number alone never holds. */
    private static QbfDesk withOneThatNeverHolds(int held, int number) {
        QbfDesk desk = new QbfDesk();
        for (int i = 0; i < held; i++) {
            desk.add(i == number ? NEVER : ALWAYS);
        }
        return desk;
    }

    private static QbfDesk allBreakers(int... clauses) {
        QbfDesk desk = withClauses(clauses);
        for (int v = 0; v < 8; v++) {
            desk.give(v, false);
        }
        return desk;
    }

    // ---- What it is

    private static void whatItIs() {
        lastCallAfterGives();
        lastCallAfterAdds();
        lastCallAfterAddsAndDrops();
        lastCallAfterQuestions();
        laterCallsEnd();
    }

    private static void sentenceOnCalls() {
        sentence("What it is", "An object is used for at most 512 calls after it has been made");
    }

    private static void lastCallAfterGives() {
        sentenceOnCalls();
        QbfDesk desk = withClauses(is(7, 1));
        for (int call = 2; call < CALLS; call++) {
            desk.give(7, call % 2 == 0);
        }
        due("the 512th call, won(1) after give(7, false)", desk.won(1), 0);
        QbfDesk other = withClauses(is(7, 1));
        for (int call = 2; call < CALLS - 1; call++) {
            other.give(7, false);
        }
        due("the 511th call, won(1)", other.won(1), 0);
        due("the 512th call, swapped(7)", other.swapped(7), 1);
    }

    private static void lastCallAfterAdds() {
        sentenceOnCalls();
        QbfDesk desk = new QbfDesk();
        for (int call = 1; call < CALLS; call++) {
            due("call " + call + ", add", desk.add(is(call & 7, 1)), call <= 20 ? call : -1);
        }
        due("the 512th call, count(8)", desk.count(8), 1);
        QbfDesk other = new QbfDesk();
        for (int call = 1; call <= CALLS; call++) {
            due("call " + call + ", drop(0) of none", other.drop(0), -1);
        }
    }

    private static void lastCallAfterAddsAndDrops() {
        sentenceOnCalls();
        QbfDesk desk = new QbfDesk();
        for (int call = 1; call < CALLS - 1; call += 2) {
            due("call " + call + ", add to none", desk.add(NEVER), 1);
            due("call " + (call + 1) + ", drop(0) of one", desk.drop(0), 0);
        }
        due("the 511th call, add", desk.add(is(0, 1)), 1);
        due("the 512th call, choice(1)", desk.choice(1), 1);
    }

    private static void lastCallAfterQuestions() {
        sentenceOnCalls();
        QbfDesk desk = withClauses(is(7, 1));
        for (int position = 1; position < CALLS; position++) {
            int want = position < 256 ? 1 : position & 1;
            due("call " + (position + 1) + ", won(" + position + ")", desk.won(position), want);
        }
        QbfDesk other = withClauses(is(7, 1), is(0, 0));
        for (int call = 3; call < CALLS; call++) {
            due("call " + call + ", spare(1)", other.spare(1), 1);
        }
        due("the 512th call, drop(1)", other.drop(1), 1);
        QbfDesk third = new QbfDesk();
        for (int call = 1; call < CALLS; call++) {
            due("call " + call + ", count(8)", third.count(8), 256);
        }
        due("the 512th call, add", third.add(NEVER), 1);
    }

    private static void laterCallsEnd() {
        // What they answer is free; that they end and throw nothing is LANGUAGE.md's rule 7.
        sentence("What it is", "what later calls answer is free");
        QbfDesk desk = new QbfDesk();
        for (int call = 0; call < 3 * CALLS; call++) {
            int argument = FAR_OUT[call % FAR_OUT.length] + call % 23;
            desk.give(argument, call % 3 == 0);
            desk.add(argument);
            desk.won(argument);
            desk.choice(argument);
            desk.count(argument);
            desk.spare(argument);
            desk.swapped(argument);
            desk.drop(call % 3 == 0 ? 0 : argument);
        }
    }

    // ---- Terms

    private static void terms() {
        firstAndLastVariable();
        allMakersAtTheStart();
        firstAndLastLiteral();
        sixteenLowestBits();
        clauseWithoutLiterals();
        clauseWithAllLiterals();
        twentyClauses();
        numberedFromZero();
        noneAtTheStart();
        shortestAndLongestPosition();
        positionsTwoAndThree();
        fullPosition();
        fullPositionWithoutClauses();
        otherPosition();
    }

    private static void firstAndLastVariable() {
        sentence("Terms", "VARIABLES are 0 to 7; their values, 0 or 1, are chosen in this order, "
            + "variable 0 first.");
        int equal01 = is(0, 1) | is(7, 0);
        int equal10 = is(0, 0) | is(7, 1);
        QbfDesk desk = withClauses(equal01, equal10);
        desk.give(0, false);
        due("BREAKER has the first, MAKER the last: won(1)", desk.won(1), 1);
        desk.give(0, true);
        desk.give(7, false);
        due("MAKER has the first, BREAKER the last: won(1)", desk.won(1), 0);
    }

    private static void allMakersAtTheStart() {
        sentence("Terms", "at the start all belong to MAKER");
        QbfDesk desk = withClauses(is(0, 1), is(1, 0), is(2, 1), is(3, 0), is(4, 1), is(5, 0), is(6, 1), is(7, 0));
        due("MAKER chooses all: won(1)", desk.won(1), 1);
        for (int v = 0; v < 8; v++) {
            due("not if BREAKER had " + v + ": swapped(" + v + ")", desk.swapped(v), 0);
        }
    }

    private static void firstAndLastLiteral() {
        sentence("Terms", "A LITERAL is written as 2 * v (variable v is 1) or 2 * v + 1 (it is 0).");
        due("add(1): 10000000", withClauses(1).won(256 + 128), 1);
        due("add(1): 01111111", withClauses(1).won(256 + 127), 0);
        due("add(2): 10000000", withClauses(2).won(256 + 128), 0);
        due("add(2): 01111111", withClauses(2).won(256 + 127), 1);
        due("add(16384): 00000001", withClauses(16384).won(256 + 1), 1);
        due("add(16384): 11111110", withClauses(16384).won(256 + 254), 0);
        due("add(32768): 00000001", withClauses(32768).won(256 + 1), 0);
        due("add(32768): 11111110", withClauses(32768).won(256 + 254), 1);
    }

    private static void sixteenLowestBits() {
        sentence("Terms", "of an argument only the sixteen lowest bits are looked at");
        for (int bit = 16; bit < 32; bit++) {
            due("only bit " + bit + ": count(8)", withClauses(1 << bit).count(8), 0);
            due("bit " + bit + " and literal 15: count(8)", withClauses(1 << bit | 32768).count(8), 128);
        }
        for (int bit = 0; bit < 16; bit++) {
            due("bit " + bit + " alone: count(8)", withClauses(1 << bit).count(8), 128);
            due("bit " + bit + " and all high ones: count(8)", withClauses(1 << bit | -65536).count(8), 128);
        }
        due("-65536: count(8)", withClauses(-65536).count(8), 0);
        due("-65535: won(383)", withClauses(-65535).won(383), 0);
        due("-65535: won(384)", withClauses(-65535).won(384), 1);
        due("MIN: count(8)", withClauses(MIN).count(8), 0);
        due("MAX: count(8)", withClauses(MAX).count(8), 256);
        due("MAX less literal 15: count(8)", withClauses(MAX - 32768).count(8), 256);
    }

    private static void clauseWithoutLiterals() {
        sentence("Terms", "it HOLDS if at least one of its literals is so");
        QbfDesk desk = withClauses(NEVER);
        for (int k = 0; k <= 8; k++) {
            due("no literal: count(" + k + ")", desk.count(k), 0);
        }
        due("no literal, then one that holds: count(8)", withClauses(NEVER, ALWAYS).count(8), 0);
    }

    private static void clauseWithAllLiterals() {
        sentence("Terms", "it HOLDS if at least one of its literals is so");
        QbfDesk desk = allBreakers(ALWAYS);
        for (int k = 0; k <= 8; k++) {
            due("all literals: count(" + k + ")", desk.count(k), 1 << k);
        }
        for (int v = 0; v < 8; v++) {
            due("both literals of " + v, withClauses(is(v, 0) | is(v, 1)).count(8), 256);
            due("one literal of " + v + " is so", withClauses(is(v, 1) | is((v + 1) & 7, 1)).count(8), 192);
        }
        int oneForEach = 0b0101010101010101;
        due("eight literals, none is so", withClauses(oneForEach).won(256), 0);
        for (int v = 0; v < 8; v++) {
            due("eight literals, that of " + v + " is so", withClauses(oneForEach).won(256 + (128 >> v)), 1);
        }
    }

    private static void twentyClauses() {
        sentence("Terms", "At most 20 clauses are held");
        due("add to 18", withCopies(18, ALWAYS).add(ALWAYS), 19);
        due("add to 19", withCopies(19, ALWAYS).add(ALWAYS), 20);
        due("add to 20", withCopies(20, ALWAYS).add(ALWAYS), -1);
        due("the 20th is looked at: won(1)", withOneThatNeverHolds(20, 19).won(1), 0);
        due("the 21st is not held: won(1)", withOneThatNeverHolds(21, 20).won(1), 1);
    }

    private static void numberedFromZero() {
        sentence("Terms", "numbered from 0 in the order in which they were added");
        for (int odd = 0; odd < 20; odd++) {
            QbfDesk desk = withOneThatNeverHolds(20, odd);
            for (int number = 0; number < 20; number++) {
                due(odd + " never holds: spare(" + number + ")", desk.spare(number), number == odd ? 1 : 0);
            }
            due("drop(" + odd + ")", desk.drop(odd), 19);
            due("then won(1)", desk.won(1), 1);
        }
    }

    private static void noneAtTheStart() {
        sentence("Terms", "at the start none is");
        due("drop(0)", new QbfDesk().drop(0), -1);
        due("spare(0)", new QbfDesk().spare(0), -1);
        due("add", new QbfDesk().add(NEVER), 1);
        due("count(8)", new QbfDesk().count(8), 256);
    }

    private static void shortestAndLongestPosition() {
        sentence("Terms", "for some k from 0 to 8; [...] (1 is the empty position; [...] and so on up to 511)");
        due("won(1) is MAKER's choice of all", withClauses(is(0, 1), is(7, 1)).won(1), 1);
        due("won(511): all are 1", withClauses(0b0101010101010101).won(511), 1);
        due("won(511): none is 0", withClauses(0b1010101010101010).won(511), 0);
        due("won(256): none is 1", withClauses(0b0101010101010101).won(256), 0);
        due("won(256): all are 0", withClauses(0b1010101010101010).won(256), 1);
        for (int k = 1; k <= 8; k++) {
            QbfDesk desk = withClauses(is(k - 1, 1));
            due("first with " + k + " values: the last one is 0", desk.won(1 << k), 0);
            due("last with " + k + " values: the last one is 1", desk.won((2 << k) - 1), 1);
            due("last but one with " + k + " values: the last one is 0", desk.won((2 << k) - 2), 0);
        }
    }

    private static void positionsTwoAndThree() {
        sentence("Terms", "2 and 3 give variable 0 the value 0 and 1");
        due("variable 0 is 1: won(2)", withClauses(is(0, 1)).won(2), 0);
        due("variable 0 is 1: won(3)", withClauses(is(0, 1)).won(3), 1);
        due("variable 0 is 0: won(2)", withClauses(is(0, 0)).won(2), 1);
        due("variable 0 is 0: won(3)", withClauses(is(0, 0)).won(3), 0);
        for (int v = 1; v < 8; v++) {
            due("variable " + v + " is open: won(2)", withClauses(is(v, 1)).won(2), 1);
            due("variable " + v + " is open: won(3)", withClauses(is(v, 0)).won(3), 1);
        }
    }

    private static void fullPosition() {
        sentence("Terms", "A position with k = 8 is WON if all clauses hold, else not.");
        QbfDesk makers = withClauses(is(0, 1) | is(7, 1), is(3, 0));
        QbfDesk breakers = allBreakers(is(0, 1) | is(7, 1), is(3, 0));
        for (int position = 256; position < 512; position++) {
            boolean first = (position & 128) != 0 || (position & 1) != 0;
            boolean second = (position & 16) == 0;
            int want = first && second ? 1 : 0;
            due("all are MAKER's: won(" + position + ")", makers.won(position), want);
            due("all are BREAKER's: won(" + position + ")", breakers.won(position), want);
        }
        for (int odd = 0; odd < 20; odd++) {
            due("all of 20 but " + odd + " hold: won(511)", withOneThatNeverHolds(20, odd).won(511), 0);
        }
        due("all of 20 hold: won(511)", withCopies(20, ALWAYS).won(511), 1);
    }

    private static void fullPositionWithoutClauses() {
        sentence("Terms", "A position with k = 8 is WON if all clauses hold, else not.");
        due("no clause: won(256)", allBreakers().won(256), 1);
        due("no clause: won(511)", allBreakers().won(511), 1);
        due("no clause: count(8)", allBreakers().count(8), 256);
    }

    private static void otherPosition() {
        sentence("Terms", "Another position is WON if variable k belongs to MAKER and at least one of its two values "
            + "leads to a won position, or it belongs to BREAKER and both do.");
        for (int v = 0; v < 8; v++) {
            for (int position = 1 << v; position < 2 << v; position++) {
                otherPositionIn(v, position);
            }
        }
    }

    private static void otherPositionIn(int v, int position) {
        int[] none = {is(v, 0), is(v, 1)};
        due("MAKER, both: won(" + position + ")", withClauses().won(position), 1);
        due("MAKER, 0 alone: won(" + position + ")", withClauses(is(v, 0)).won(position), 1);
        due("MAKER, 1 alone: won(" + position + ")", withClauses(is(v, 1)).won(position), 1);
        due("MAKER, none: won(" + position + ")", withClauses(none).won(position), 0);
        due("BREAKER, both: won(" + position + ")", breakerHas(v).won(position), 1);
        due("BREAKER, 0 alone: won(" + position + ")", breakerHas(v, is(v, 0)).won(position), 0);
        due("BREAKER, 1 alone: won(" + position + ")", breakerHas(v, is(v, 1)).won(position), 0);
        due("BREAKER, none: won(" + position + ")", breakerHas(v, none).won(position), 0);
    }

    private static QbfDesk breakerHas(int v, int... clauses) {
        QbfDesk desk = withClauses(clauses);
        desk.give(v, false);
        return desk;
    }

    // ---- Promise 1

    private static void promise1() {
        sentence("Promise 1", "No clause; all variables belong to MAKER.");
        for (int number = 0; number <= 20; number++) {
            due("drop(" + number + ")", new QbfDesk().drop(number), -1);
            due("spare(" + number + ")", new QbfDesk().spare(number), -1);
        }
        QbfDesk desk = new QbfDesk();
        for (int position = 1; position < 256; position++) {
            due("choice(" + position + ")", desk.choice(position), 0);
        }
        for (int v = 0; v < 8; v++) {
            due("swapped(" + v + ")", desk.swapped(v), 1);
            due("MAKER wants " + v + " to be 0", withClauses(is(v, 0)).won(1), 1);
            due("MAKER wants " + v + " to be 1", withClauses(is(v, 1)).won(1), 1);
        }
    }

    // ---- Promise 2

    private static void promise2() {
        giveWrapsAround();
        giveAgain();
    }

    private static void giveWrapsAround() {
        sentence("Promise 2", "The variable v & 7 belongs to MAKER (maker is true) or BREAKER from now on.");
        int[] starts = {0, 8, 16, 32, 64, 1 << 30, MAX - 7, -8, -16, -32, -64, MIN, MIN + 8};
        for (int start : starts) {
            for (int v = 0; v < 8; v++) {
                giveOneOf(v, start + v);
            }
        }
    }

    private static void giveOneOf(int v, int argument) {
        QbfDesk desk = new QbfDesk();
        desk.give(argument, false);
        desk.add(is(v, 1));
        due("give(" + argument + ", false), won(1)", desk.won(1), 0);
        desk.give(argument, true);
        due("give(" + argument + ", true), won(1)", desk.won(1), 1);
        QbfDesk others = new QbfDesk();
        others.give(argument, false);
        for (int away = 1; away < 8; away++) {
            others.add(is(v ^ away, 1));
        }
        due("give(" + argument + ", false) gives no other, won(1)", others.won(1), 1);
        for (int away = 1; away < 8; away++) {
            QbfDesk back = allBreakers(is(v ^ away, 1));
            back.give(argument, true);
            due("give(" + argument + ", true) leaves " + (v ^ away) + " to BREAKER, won(1)", back.won(1), 0);
        }
    }

    private static void giveAgain() {
        sentence("Promise 2", "from now on");
        for (int v = 0; v < 8; v++) {
            QbfDesk desk = withClauses(is(v, 1));
            desk.give(v, true);
            due("MAKER's given to MAKER, " + v, desk.won(1), 1);
            desk.give(v, false);
            desk.give(v, false);
            due("BREAKER's given to BREAKER, " + v, desk.won(1), 0);
            desk.add(is(v, 0));
            desk.drop(1);
            due("still BREAKER's after add and drop, " + v, desk.won(1), 0);
            desk.give(v, true);
            due("MAKER's again, " + v, desk.won(1), 1);
        }
    }

    // ---- Promise 3

    private static void promise3() {
        addUpToTwenty();
        addAfterDropFromTwenty();
        addAnyNumberIsNoRefusal();
    }

    private static void addUpToTwenty() {
        sentence("Promise 3", "Answers how many are held then, or -1 if there are 20.");
        QbfDesk desk = new QbfDesk();
        for (int i = 1; i <= 20; i++) {
            due("add number " + i, desk.add(is(i & 7, 1)), i);
        }
        for (int i = 21; i <= 40; i++) {
            due("add number " + i, desk.add(NEVER), -1);
        }
        due("what was refused is not held: won(511)", desk.won(511), 1);
        due("what was refused took no place: count(8)", desk.count(8), 1);
    }

    private static void addAfterDropFromTwenty() {
        sentence("Promise 3", "Answers how many are held then, or -1 if there are 20.");
        for (int number = 0; number < 20; number++) {
            QbfDesk desk = withCopies(20, ALWAYS);
            due("add(0) to 20", desk.add(NEVER), -1);
            due("drop(" + number + ") of 20", desk.drop(number), 19);
            due("then nothing refused is held: won(1)", desk.won(1), 1);
            due("add to 19", desk.add(is(0, 1)), 20);
            due("the new one is held: won(2)", desk.won(2), 0);
            due("the new one is the last: drop(19)", desk.drop(19), 19);
            due("the new one is gone: won(2)", desk.won(2), 1);
        }
    }

    private static void addAnyNumberIsNoRefusal() {
        sentence("Promise 3", "Answers how many are held then, or -1 if there are 20.");
        for (int clause : FAR_OUT) {
            due("add(" + clause + ") to none", new QbfDesk().add(clause), 1);
            due("add(" + clause + ") to 19", withCopies(19, ALWAYS).add(clause), 20);
            due("add(" + clause + ") to 20", withCopies(20, ALWAYS).add(clause), -1);
        }
        due("add(-1) to none", new QbfDesk().add(-1), 1);
        due("add(0) to none", new QbfDesk().add(0), 1);
        due("the same one again", withCopies(1, 5).add(5), 2);
    }

    // ---- Promise 4

    private static void promise4() {
        dropMovesTheOnesBehind();
        dropDownToNone();
        dropWhereThereIsNone();
    }

    private static void dropMovesTheOnesBehind() {
        sentence("Promise 4", "Takes the clause with the number out; the ones behind it move one place back.");
        for (int held = 1; held <= 20; held++) {
            for (int number = 0; number < held; number++) {
                for (int odd = 0; odd < held; odd++) {
                    dropOneOf(held, number, odd);
                }
            }
        }
    }

    private static void dropOneOf(int held, int number, int odd) {
        String call = "drop(" + number + ") of " + held + ", " + odd + " never holds";
        QbfDesk desk = withOneThatNeverHolds(held, odd);
        due(call, desk.drop(number), held - 1);
        due(call + ", won(1)", desk.won(1), odd == number ? 1 : 0);
        if (odd != number) {
            int moved = odd < number ? odd : odd - 1;
            due(call + ", spare(" + moved + ")", desk.spare(moved), 1);
            due(call + ", drop(" + moved + ")", desk.drop(moved), held - 2);
            due(call + ", won(1) then", desk.won(1), 1);
        }
        int left = odd == number ? held - 1 : held - 2;
        due(call + ", drop(" + left + ")", desk.drop(left), -1);
        due(call + ", add", desk.add(ALWAYS), left + 1);
        due(call + ", what was behind does not come back: won(1)", desk.won(1), 1);
    }

    private static void dropDownToNone() {
        sentence("Promise 4", "Answers how many are held then");
        QbfDesk front = withCopies(20, NEVER);
        QbfDesk back = withCopies(20, NEVER);
        for (int left = 19; left >= 0; left--) {
            due("drop(0) of " + (left + 1), front.drop(0), left);
            due("drop(" + left + ") of " + (left + 1), back.drop(left), left);
            due("won(1) with " + left, front.won(1), left == 0 ? 1 : 0);
            due("won(1) with " + left, back.won(1), left == 0 ? 1 : 0);
        }
        due("drop(0) of none", front.drop(0), -1);
        due("add to none", front.add(NEVER), 1);
    }

    private static void dropWhereThereIsNone() {
        sentence("Promise 4", "-1 if there is none");
        for (int held = 0; held <= 20; held++) {
            QbfDesk desk = withCopies(held, is(0, 1));
            due("drop(-1) of " + held, desk.drop(-1), -1);
            due("drop(" + held + ") of " + held, desk.drop(held), -1);
            due("drop(" + (held + 1) + ") of " + held, desk.drop(held + 1), -1);
            due("drop(20) of " + held, desk.drop(20), -1);
            due("drop(21) of " + held, desk.drop(21), -1);
            for (int number : FAR_OUT) {
                due("drop(" + number + ") of " + held, desk.drop(number), -1);
            }
            due("all are still held: add to " + held, desk.add(ALWAYS), held == 20 ? -1 : held + 1);
            due("and hold as before: count(8)", desk.count(8), held == 0 ? 256 : 128);
        }
    }

    // ---- Promise 5

    private static void promise5() {
        sentence("Promise 5", "1 if the position is won, else 0; -1 if it is not from 1 to 511.");
        QbfDesk won = new QbfDesk();
        QbfDesk lost = withClauses(NEVER);
        for (int position : new int[] {1, 2, 3, 127, 128, 254, 255, 256, 257, 510, 511}) {
            due("won(" + position + "), all are won", won.won(position), 1);
            due("won(" + position + "), none is won", lost.won(position), 0);
        }
        for (int position : new int[] {0, -1, -511, 512, 513, 767, 1023}) {
            wonOutOfRange(won, lost, position);
        }
        for (int position : FAR_OUT) {
            wonOutOfRange(won, lost, position);
        }
    }

    private static void wonOutOfRange(QbfDesk won, QbfDesk lost, int position) {
        due("won(" + position + "), all are won", won.won(position), -1);
        due("won(" + position + "), none is won", lost.won(position), -1);
        due("won(1) after it", won.won(1), 1);
        due("won(1) after it", lost.won(1), 0);
    }

    // ---- Promise 6

    private static void promise6() {
        choiceInEveryPosition();
        choiceOutOfRange();
    }

    private static void choiceInEveryPosition() {
        sentence("Promise 6", "for MAKER the least value that leads to a won position, "
            + "for BREAKER the least one that leads to a position that is not won; 2 if there is none");
        for (int v = 0; v < 8; v++) {
            for (int position = 1 << v; position < 2 << v; position++) {
                choiceIn(v, position);
            }
        }
    }

    private static void choiceIn(int v, int position) {
        int[] none = {is(v, 0), is(v, 1)};
        due("MAKER, both are won: choice(" + position + ")", makerHas(v).choice(position), 0);
        due("MAKER, 0 alone is won: choice(" + position + ")", makerHas(v, is(v, 0)).choice(position), 0);
        due("MAKER, 1 alone is won: choice(" + position + ")", makerHas(v, is(v, 1)).choice(position), 1);
        due("MAKER, none is won: choice(" + position + ")", makerHas(v, none).choice(position), 2);
        due("BREAKER, both are won: choice(" + position + ")", breakerHas(v).choice(position), 2);
        due("BREAKER, 0 alone is won: choice(" + position + ")", breakerHas(v, is(v, 0)).choice(position), 1);
        due("BREAKER, 1 alone is won: choice(" + position + ")", breakerHas(v, is(v, 1)).choice(position), 0);
        due("BREAKER, none is won: choice(" + position + ")", breakerHas(v, none).choice(position), 0);
    }

    /** All others are BREAKER's, so that an answer by a neighbour's owner is seen. */
    private static QbfDesk makerHas(int v, int... clauses) {
        QbfDesk desk = allBreakers(clauses);
        desk.give(v, true);
        return desk;
    }

    private static void choiceOutOfRange() {
        sentence("Promise 6", "-1 if position is not from 1 to 255");
        QbfDesk makers = new QbfDesk();
        QbfDesk breakers = allBreakers(NEVER);
        for (int position : new int[] {0, -1, -255, 256, 257, 510, 511, 512, 513}) {
            choiceOutOfRangeOf(makers, breakers, position);
        }
        for (int position : FAR_OUT) {
            choiceOutOfRangeOf(makers, breakers, position);
        }
        due("choice(1), the first in range", withClauses(is(0, 1)).choice(1), 1);
        due("choice(255), the last in range", withClauses(is(7, 1)).choice(255), 1);
    }

    private static void choiceOutOfRangeOf(QbfDesk makers, QbfDesk breakers, int position) {
        due("choice(" + position + "), MAKER", makers.choice(position), -1);
        due("choice(" + position + "), BREAKER", breakers.choice(position), -1);
        due("choice(255) after it", makers.choice(255), 0);
        due("choice(255) after it", breakers.choice(255), 0);
    }

    // ---- Promise 7

    private static void promise7() {
        countFromNoneToAll();
        countOutOfRange();
    }

    private static void countFromNoneToAll() {
        sentence("Promise 7", "How many of the positions with k values (k from 0 to 8) are won");
        for (int k = 0; k <= 8; k++) {
            due("all are won: count(" + k + ")", new QbfDesk().count(k), 1 << k);
            due("none is won: count(" + k + ")", withClauses(NEVER).count(k), 0);
        }
        int[] ones = new int[8];
        int[] zeros = new int[8];
        for (int v = 0; v < 8; v++) {
            ones[v] = is(v, 1);
            zeros[v] = is(v, 0);
        }
        for (int k = 0; k <= 8; k++) {
            due("only the last one is won: count(" + k + ")", withClauses(ones).count(k), 1);
            due("only the first one is won: count(" + k + ")", withClauses(zeros).count(k), 1);
        }
        int notAllOnes = 0b1010101010101010;
        int notAllZeros = 0b0101010101010101;
        for (int k = 0; k <= 8; k++) {
            due("the last one is lost: count(" + k + ")", allBreakers(notAllOnes).count(k), (1 << k) - 1);
            due("the first one is lost: count(" + k + ")", allBreakers(notAllZeros).count(k), (1 << k) - 1);
        }
    }

    private static void countOutOfRange() {
        sentence("Promise 7", "-1 if k is out of range");
        QbfDesk desk = new QbfDesk();
        for (int k : new int[] {-1, 9, 10, 16, 30, 31, 32, 33, 40, 64, 256, 511, 512, -8, -23, -24, -31, -32}) {
            due("count(" + k + ")", desk.count(k), -1);
            due("count(0) after it", desk.count(0), 1);
        }
        for (int k : FAR_OUT) {
            due("count(" + k + ")", desk.count(k), -1);
            due("count(8) after it", desk.count(8), 256);
        }
    }

    // ---- Promise 8

    private static void promise8() {
        spareOfTheOnlyClause();
        spareOfLostAndWon();
        spareWhereThereIsNone();
    }

    private static void spareOfTheOnlyClause() {
        sentence("Promise 8", "1 if the empty position would still be won without the clause with the number");
        due("the only one never holds: spare(0)", withClauses(NEVER).spare(0), 1);
        due("the only one is BREAKER's to break: spare(0)", breakerHas(7, is(7, 1)).spare(0), 1);
        QbfDesk desk = withClauses(NEVER);
        desk.spare(0);
        due("it is held still: won(1)", desk.won(1), 0);
        due("it is held still: add", desk.add(ALWAYS), 2);
    }

    private static void spareOfLostAndWon() {
        sentence("Promise 8", "or is won; 0 if not");
        for (int held = 1; held <= 20; held++) {
            QbfDesk won = withCopies(held, is(7, 1));
            for (int number = 0; number < held; number++) {
                due("won: spare(" + number + ") of " + held, won.spare(number), 1);
            }
        }
        for (int held = 2; held <= 20; held++) {
            QbfDesk lost = withCopies(held, NEVER);
            for (int number = 0; number < held; number++) {
                due("lost for two or more: spare(" + number + ") of " + held, lost.spare(number), 0);
            }
        }
    }

    private static void spareWhereThereIsNone() {
        sentence("Promise 8", "-1 if there is no such clause");
        for (int held = 0; held <= 20; held++) {
            spareOutOfRange(withCopies(held, ALWAYS), held, 1);
            spareOutOfRange(withCopies(held, NEVER), held, held == 0 ? 1 : 0);
            QbfDesk dropped = withCopies(20, ALWAYS);
            for (int left = 20; left > held; left--) {
                dropped.drop(0);
            }
            spareOutOfRange(dropped, held, 1);
        }
    }

    private static void spareOutOfRange(QbfDesk desk, int held, int won) {
        due("spare(-1) of " + held, desk.spare(-1), -1);
        for (int number = held; number <= 32; number++) {
            due("spare(" + number + ") of " + held, desk.spare(number), -1);
        }
        for (int number : FAR_OUT) {
            due("spare(" + number + ") of " + held, desk.spare(number), -1);
        }
        due("won(1) after them", desk.won(1), won);
    }

    // ---- Promise 9

    private static void promise9() {
        swappedWrapsAround();
        swappedOfNoClause();
    }

    private static void swappedWrapsAround() {
        sentence("Promise 9", "1 if the empty position would be won if variable v & 7 belonged to the other one; "
            + "else 0.");
        int[] starts = {0, 8, 16, 32, 64, 1 << 30, MAX - 7, -8, -16, -32, -64, MIN, MIN + 8};
        for (int start : starts) {
            for (int v = 0; v < 8; v++) {
                swappedOneOf(v, start + v);
            }
        }
    }

    private static void swappedOneOf(int v, int argument) {
        QbfDesk maker = withClauses(is(v, 1));
        due("from MAKER: swapped(" + argument + ")", maker.swapped(argument), 0);
        due("MAKER has it still: won(1)", maker.won(1), 1);
        QbfDesk breaker = breakerHas(v, is(v, 0));
        due("from BREAKER: swapped(" + argument + ")", breaker.swapped(argument), 1);
        due("BREAKER has it still: won(1)", breaker.won(1), 0);
        for (int away = 1; away < 8; away++) {
            due("from MAKER, another: swapped(" + (argument ^ away) + ")", maker.swapped(argument ^ away), 1);
            due("from BREAKER, another: swapped(" + (argument ^ away) + ")",
                breaker.swapped(argument ^ away), 0);
        }
    }

    private static void swappedOfNoClause() {
        sentence("Promise 9", "1 if the empty position would be won [...] else 0.");
        for (int v = 0; v < 8; v++) {
            due("no clause, BREAKER has all: swapped(" + v + ")", allBreakers().swapped(v), 1);
            due("one that never holds: swapped(" + v + ")", withClauses(NEVER).swapped(v), 0);
            due("one that never holds, BREAKER has all: swapped(" + v + ")", allBreakers(NEVER).swapped(v), 0);
        }
    }
}
