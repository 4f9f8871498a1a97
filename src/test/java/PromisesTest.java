/** Each promise of the document with answers worked out beforehand: the ordinary, the edges, the wrong. */
public final class PromisesTest extends Calls {
    private PromisesTest() {
    }

    public static void main(String[] args) {
        promise1NewObject();
        promise2Surd();
        promise2SurdAndBook();
        promise3PartOf();
        promise4Term();
        promise5Again();
        promise5AgainLimit();
        promise6Convergent();
        promise7Between();
        promise8Nearest();
        promise9Beside();
        promise10Records();
        promise11Solution();
        promise12Solutions();
        promise13LeastSolution();
        promise14Note();
        promise14NoteRanges();
        promise14NoteLimit();
        promise15Strike();
        promise16StrikeAll();
        promise17NoteOf();
        promise18Count();
        promise19Undo();
        promise19UndoHistory();
        promise20Type();
        promise21ClearText();
        promise22Fault();
        promise23Told();
        promise23ToldLimits();
        errorsChangeNothing();
        Due.end();
    }

    private static void promise1NewObject() {
        SurdFractions x = new SurdFractions();
        isSurd("new", x, 0, 2, 1);
        terms(x, 1, 2, 2, 2);
        for (int i = 0; i < 4; i++) {
            Due.is("new: count(" + i + ")", x.count(i), 0);
        }
        Due.is("new: noteOf(0, 0)", x.noteOf(0, 0), NOT_FOUND);
        Due.is("new: undo()", x.undo(), NOT_POSSIBLE);
        SurdFractions other = of(3, 5, 7);
        note(other, "1", 0);
        Due.is("objects apart: partOf(1)", x.partOf(1), 1002);
        Due.is("objects apart: count(0)", x.count(0), 0);
        Due.is("constant", SurdFractions.INVALID_ARGUMENT, INVALID);
        Due.is("constant", SurdFractions.NOT_POSSIBLE, NOT_POSSIBLE);
        Due.is("constant", SurdFractions.LIMIT_REACHED, LIMIT);
        Due.is("constant", SurdFractions.NOT_FOUND, NOT_FOUND);
    }

    private static void promise2Surd() {
        isSurd("least", of(-99, 2, -99), -99, 2, -99);
        isSurd("greatest", of(99, 999, 99), 99, 999, 99);
        isSurd("as given", of(2, 8, 2), 2, 8, 2);
        SurdFractions x = of(4, 7, 5);
        int[][] wrong = {
            {-100, 7, 5}, {100, 7, 5}, {4, 1, 5}, {4, 1000, 5}, {4, 0, 5}, {4, -4, 5}, {4, 7, -100}, {4, 7, 100}, {4, 7, 0},
            {100, 9, 5}, {4, 9, 0}, {LEAST_INT, 7, 5}, {4, LEAST_INT, 5}, {4, 7, LEAST_INT},
            {GREATEST_INT, 7, 5}, {4, GREATEST_INT, 5}, {4, 7, GREATEST_INT},
        };
        for (int[] one : wrong) {
            Due.is("surd of a wrong argument", x.surd(one[0], one[1], one[2]), INVALID);
        }
        for (int root = 2; root <= 31; root++) {
            Due.is("surd of a square", x.surd(4, root * root, 5), NOT_POSSIBLE);
        }
        isSurd("after errors", x, 4, 7, 5);
        Due.is("after errors: count(2)", x.count(2), 1);
        Due.is("the same once more", x.surd(4, 7, 5), 0);
        Due.is("the same once more: count(2)", x.count(2), 2);
    }

    private static void promise2SurdAndBook() {
        SurdFractions x = new SurdFractions();
        note(x, "1", 0);
        note(x, "2", 1);
        note(x, "1;2", 0);
        book("by the root of 2", x, 3, 2, 1, 1, 2, 1);
        Due.is("surd(0, 5, 1)", x.surd(0, 5, 1), 0);
        book("by the root of 5", x, 2, 1, 3, 2, 1, 1);
        Due.is("surd(0, 2, -1)", x.surd(0, 2, -1), 0);
        book("by less the root of 2", x, 1, 1, 3, 2, 2, 1);
    }

    private static void promise3PartOf() {
        isSurd("parts", of(-7, 11, 13), -7, 11, 13);
        isSurd("parts", of(7, 11, -13), 7, 11, -13);
        SurdFractions x = new SurdFractions();
        Due.is("partOf(-1)", x.partOf(-1), INVALID);
        Due.is("partOf(3)", x.partOf(3), INVALID);
        Due.is("partOf(least)", x.partOf(LEAST_INT), INVALID);
        Due.is("partOf(greatest)", x.partOf(GREATEST_INT), INVALID);
    }

    private static void promise4Term() {
        terms(of(0, 61, 1), 7, 1, 4, 3, 1, 2, 2, 1, 3, 4, 1, 14, 1, 4);
        terms(of(1, 5, 2), 1, 1, 1, 1, 1, 1);
        terms(of(0, 2, -1), -2, 1, 1, 2, 2, 2);
        terms(of(-99, 999, 99), -1, 3, 7);
        terms(of(0, 2, 99), 0, 70, 280, 140, 280);
        terms(of(99, 2, 1), 100, 2, 2);
        terms(of(-99, 2, 1), -98, 2, 2);
        terms(of(99, 999, 1), 130, 1, 1, 1, 1, 5);
        terms(of(99, 999, -1), -131, 2, 1, 1, 5);
        SurdFractions x = new SurdFractions();
        Due.is("term(399)", x.term(399), 1002);
        Due.is("term(-1)", x.term(-1), INVALID);
        Due.is("term(400)", x.term(400), INVALID);
        Due.is("term(least)", x.term(LEAST_INT), INVALID);
        Due.is("term(greatest)", x.term(GREATEST_INT), INVALID);
    }

    private static void promise5Again() {
        again(new SurdFractions(), 1, 1, 2, 1, 1);
        again(of(1, 5, 2), 0, 1, 1, 1, 1);
        again(of(0, 61, 1), 1, 11, 14, 5, 1);
        again(of(0, 7, 1), 1, 4, 4, 2, 1);
        again(of(0, 3, 1), 1, 2, 2, 2, 1);
        again(of(2, 7, 1), 0, 4, 4, 2, 0);
        again(of(0, 2, -1), 3, 1, 2, 1, 1);
        again(of(5, 7, -3), 2, 4, 4, 2, 0);
        SurdFractions x = new SurdFractions();
        Due.is("again(-1)", x.again(-1), INVALID);
        Due.is("again(5)", x.again(5), INVALID);
        Due.is("again(greatest)", x.again(GREATEST_INT), INVALID);
        Due.is("again(least)", x.again(LEAST_INT), INVALID);
    }

    private static void promise5AgainLimit() {
        SurdFractions x = of(63, 921, 79);
        Due.is("400 together: again(0)", x.again(0), 2);
        Due.is("400 together: again(1)", x.again(1), 398);
        int[][] above = {{63, 931, 41}, {36, 929, 74}, {18, 907, 58}, {36, 991, 97}};
        for (int[] one : above) {
            x = of(one[0], one[1], one[2]);
            for (int i = 0; i < 5; i++) {
                Due.is("above 400 together: again(" + i + ")", x.again(i), LIMIT);
            }
            Due.is("above 400 together: again(5)", x.again(5), INVALID);
            Due.is("above 400 together: again(-1)", x.again(-1), INVALID);
        }
    }

    private static void promise6Convergent() {
        SurdFractions x = new SurdFractions();
        isConvergent(x, 0, 1, 1);
        isConvergent(x, 1, 3, 2);
        isConvergent(x, 2, 7, 5);
        isConvergent(x, 3, 17, 12);
        x = of(1, 5, 2);
        isConvergent(x, 10, 144, 89);
        isConvergent(x, 76, 8944394323791464L, 5527939700884757L);
        Due.is("upper part above the limit: convergent(77, 0)", x.convergent(77, 0), LIMIT);
        Due.is("upper part above the limit: convergent(77, 1)", x.convergent(77, 1), LIMIT);
        Due.is("convergent(399, 1)", x.convergent(399, 1), LIMIT);
        x = of(-1, 5, 2);
        isConvergent(x, 0, 0, 1);
        isConvergent(x, 77, 5527939700884757L, 8944394323791464L);
        Due.is("lower part above the limit: convergent(78, 0)", x.convergent(78, 0), LIMIT);
        Due.is("lower part above the limit: convergent(78, 1)", x.convergent(78, 1), LIMIT);
        x = of(0, 2, -1);
        isConvergent(x, 0, -2, 1);
        isConvergent(x, 1, -1, 1);
        isConvergent(x, 2, -3, 2);
        isConvergent(x, 3, -7, 5);
        x = of(0, 2, 99);
        isConvergent(x, 0, 0, 1);
        isConvergent(x, 2, 280, 19601);
        int[][] wrong = {{-1, 0}, {400, 0}, {0, -1}, {0, 2}, {399, 2}, {LEAST_INT, 0}, {GREATEST_INT, 1}, {0, GREATEST_INT}};
        for (int[] one : wrong) {
            Due.is("convergent of a wrong argument", x.convergent(one[0], one[1]), INVALID);
        }
    }

    private static void promise7Between() {
        SurdFractions x = new SurdFractions();
        isBetween(x, 2, 1, 4, 3);
        isBetween(x, 3, 1, 10, 7);
        x = of(0, 61, 1);
        isBetween(x, 2, 1, 15, 2);
        isBetween(x, 2, 3, 31, 4);
        isBetween(x, 11, 13, 29718L * 13 + 24079, 3805L * 13 + 3083);
        Due.is("by the term", x.between(2, 4, 0), INVALID);
        Due.is("by above the term", x.between(2, 5, 0), INVALID);
        Due.is("a term of 1", x.between(4, 1, 0), INVALID);
        x = of(0, 2, -1);
        isBetween(x, 3, 1, -4, 3);
        x = new SurdFractions();
        Due.is("between(41, 1, 0)", x.between(41, 1, 0), x.convergent(40, 0) + x.convergent(39, 0) - RAISED);
        Due.is("convergent(42, 0)", x.convergent(42, 0), LIMIT);
        Due.is("between small enough itself", x.between(42, 1, 0), LIMIT);
        Due.is("between small enough itself", x.between(42, 1, 1), LIMIT);
        Due.is("between(399, 1, 1)", x.between(399, 1, 1), LIMIT);
        int[][] wrong = {
            {1, 1, 0}, {0, 1, 0}, {-1, 1, 0}, {400, 1, 0}, {2, 0, 0}, {2, -1, 0}, {2, 2, 0}, {2, 1, 2}, {2, 1, -1},
            {399, 2, 0}, {399, 0, 0}, {399, 1, 2}, {2, LEAST_INT, 0}, {2, GREATEST_INT, 0}, {LEAST_INT, 1, 0},
            {GREATEST_INT, 1, 0},
        };
        for (int[] one : wrong) {
            Due.is("between of a wrong argument", x.between(one[0], one[1], one[2]), INVALID);
        }
    }

    private static void promise8Nearest() {
        SurdFractions x = new SurdFractions();
        isNearest(x, 1, 1, 1);
        isNearest(x, 2, 3, 2);
        isNearest(x, 3, 4, 3);
        isNearest(x, 4, 4, 3);
        isNearest(x, 5, 7, 5);
        isNearest(x, 11, 7, 5);
        isNearest(x, 12, 17, 12);
        isNearest(x, 98, 99, 70);
        isNearest(x, 99, 140, 99);
        isNearest(x, 168, 140, 99);
        isNearest(x, 169, 239, 169);
        isNearest(x, 200, 239, 169);
        isNearest(of(-99, 999, 99), 7, -2, 3);
        isNearest(of(0, 3, 1), 1, 2, 1);
        isNearest(of(0, 3, -1), 1, -2, 1);
        isNearest(of(0, 2, 99), 35, 0, 1);
        isNearest(of(0, 2, 99), 36, 1, 36);
        isNearest(of(99, 999, 1), 1, 131, 1);
        int[][] wrong = {{0, 0}, {-1, 0}, {201, 0}, {1, 2}, {1, -1}, {GREATEST_INT, 0}, {LEAST_INT, 1}, {1, GREATEST_INT}};
        for (int[] one : wrong) {
            Due.is("nearest of a wrong argument", x.nearest(one[0], one[1]), INVALID);
        }
    }

    private static void promise9Beside() {
        SurdFractions x = new SurdFractions();
        isBeside(x, 1, 0, 1, 1);
        isBeside(x, 1, 1, 2, 1);
        isBeside(x, 2, 0, 1, 1);
        isBeside(x, 2, 1, 3, 2);
        isBeside(x, 5, 0, 7, 5);
        isBeside(x, 5, 1, 3, 2);
        isBeside(x, 200, 0, 239, 169);
        isBeside(x, 200, 1, 99, 70);
        x = of(5, 7, -3);
        isBeside(x, 9, 0, -23, 9);
        isBeside(x, 9, 1, -5, 2);
        x = of(0, 2, 99);
        isBeside(x, 69, 0, 0, 1);
        isBeside(x, 70, 1, 1, 70);
        isBeside(x, 71, 0, 1, 71);
        int[][] wrong = {
            {0, 0, 0}, {-1, 0, 0}, {201, 0, 0}, {1, 2, 0}, {1, -1, 0}, {1, 0, 2}, {1, 0, -1}, {GREATEST_INT, 0, 0},
            {LEAST_INT, 0, 0}, {1, GREATEST_INT, 0}, {1, 0, LEAST_INT},
        };
        for (int[] one : wrong) {
            Due.is("beside of a wrong argument", x.beside(one[0], one[1], one[2]), INVALID);
        }
    }

    private static void promise10Records() {
        SurdFractions x = new SurdFractions();
        int[] dueUpTo12 = {1, 2, 3, 3, 4, 4, 4, 4, 4, 4, 4, 5};
        for (int i = 0; i < dueUpTo12.length; i++) {
            Due.is("records(" + (i + 1) + ")", x.records(i + 1), dueUpTo12[i]);
        }
        Due.is("by the root of 997 / 97: records(200)", of(0, 997, 97).records(200), 11);
        // From 4.12.. the fractions 9/2, 13/3 and 17/4 are further off than 4.
        int[] dueOfRootOf17 = {1, 1, 1, 1, 2, 3, 4, 5};
        for (int i = 0; i < dueOfRootOf17.length; i++) {
            Due.is("root of 17: records(" + (i + 1) + ")", of(0, 17, 1).records(i + 1), dueOfRootOf17[i]);
        }
        int[] wrong = {0, -1, 201, GREATEST_INT, LEAST_INT};
        for (int one : wrong) {
            Due.is("records of a wrong argument", x.records(one), INVALID);
        }
    }

    private static void promise11Solution() {
        SurdFractions x = new SurdFractions();
        isSolution(x, 1, 0, 1, 0);
        isSolution(x, 1, 1, 3, 2);
        isSolution(x, 1, 5, 3363, 2378);
        isSolution(x, 1, 6, NOT_FOUND, NOT_FOUND);
        isSolution(x, -1, 4, 1393, 985);
        isSolution(x, 7, 0, 3, 1);
        isSolution(x, 7, 1, 5, 3);
        isSolution(x, 7, 2, 13, 9);
        isSolution(x, -2, 0, 0, 1);
        isSolution(x, 49, 0, 7, 0);
        isSolution(x, 5, 0, NOT_FOUND, NOT_FOUND);
        isSolution(x, 1, GREATEST_INT, NOT_FOUND, NOT_FOUND);
        isSolution(of(17, 61, -5), -1, 0, 29718, 3805);
        isSolution(of(0, 2, 1), 46, x.solutions(46) - 1, 7064, 4995);
        isSolution(of(0, 6, 1), 19, of(0, 6, 1).solutions(19) - 1, 12245, 4999);
        isSolution(of(0, 626, 1), -4, 0, 50, 2);
        isSolution(of(0, 626, 1), -4, 1, NOT_FOUND, NOT_FOUND);
        isSolution(of(0, 999, 1), 60, 0, NOT_FOUND, NOT_FOUND);
        isSolution(of(0, 60, 1), -60, 0, 0, 1);
        int[][] wrong = {
            {0, 0, 0}, {61, 0, 0}, {-61, 0, 0}, {1, -1, 0}, {1, LEAST_INT, 0}, {1, 0, 2}, {1, 0, -1}, {5, 0, 2}, {5, -1, 0},
            {LEAST_INT, 0, 0}, {GREATEST_INT, 0, 0}, {1, GREATEST_INT, 2},
        };
        for (int[] one : wrong) {
            Due.is("solution of a wrong argument", x.solution(one[0], one[1], one[2]), INVALID);
        }
    }

    private static void promise12Solutions() {
        SurdFractions x = new SurdFractions();
        Due.is("solutions(1)", x.solutions(1), 6);
        Due.is("solutions(-1)", x.solutions(-1), 5);
        Due.is("solutions(7)", x.solutions(7), 10);
        Due.is("solutions(5)", x.solutions(5), 0);
        Due.is("root of 61: solutions(4)", of(0, 61, 1).solutions(4), 2);
        Due.is("root of 626: solutions(-4)", of(0, 626, 1).solutions(-4), 1);
        Due.is("root of 624: solutions(4)", of(0, 624, 1).solutions(4), 4);
        int[] wrong = {0, -61, 61, LEAST_INT, GREATEST_INT};
        for (int one : wrong) {
            Due.is("solutions of a wrong argument", x.solutions(one), INVALID);
        }
    }

    private static void promise13LeastSolution() {
        long[][] least = {
            {2, 3, 2}, {3, 2, 1}, {5, 9, 4}, {7, 8, 3}, {13, 649, 180}, {61, 1766319049L, 226153980L},
            {109, 158070671986249L, 15140424455100L}, {624, 25, 1}, {626, 1251, 50}, {991, LIMIT, LIMIT},
        };
        for (long[] one : least) {
            SurdFractions x = of(-9, (int) one[0], 7);
            Due.is("root of " + one[0] + ": leastSolution(0)", x.leastSolution(0), one[1]);
            Due.is("root of " + one[0] + ": leastSolution(1)", x.leastSolution(1), one[2]);
            Due.is("leastSolution(-1)", x.leastSolution(-1), INVALID);
            Due.is("leastSolution(2)", x.leastSolution(2), INVALID);
            Due.is("leastSolution(greatest)", x.leastSolution(GREATEST_INT), INVALID);
        }
    }

    private static void promise14Note() {
        SurdFractions x = new SurdFractions();
        Due.is("note() of no text", x.note(), NOT_POSSIBLE);
        note(x, "1;", NOT_POSSIBLE);
        note(x, "1;0", NOT_POSSIBLE);
        note(x, "2", 0);
        note(x, "1;1", NOT_POSSIBLE);
        note(x, "1", 0);
        note(x, "1;2", 0);
        note(x, "-0;3", 3);
        note(x, "1;2,2", 0);
        book("noted", x, 7, 5, 3, 2, 1, 1, 2, 1, 1, 3);
        Due.is("count(2)", x.count(2), 4);
        Due.is("the text stays", x.count(3), 5);
        Due.is("noted before", x.note(), NOT_POSSIBLE);
    }

    private static void promise14NoteRanges() {
        SurdFractions x = new SurdFractions();
        note(x, "1;200", 0);
        note(x, "1;201", NOT_POSSIBLE);
        note(x, "999;30", 1);
        note(x, "-999;30", 2);
        note(x, "999;33", NOT_POSSIBLE);
        note(x, "-999;33", NOT_POSSIBLE);
        note(x, "300;100", NOT_POSSIBLE);
        // 30000/101 and -30000/101 are the ends themselves.
        note(x, "297;33,1,2", 1);
        note(x, "-298;1,32,1,2", 2);
        note(x, "999;999,999,999,999,999,999,999,999,999", NOT_POSSIBLE);
        note(x, "-1;999,999,999,999,999,999,999,999,999", NOT_POSSIBLE);
        Due.is("upper part at the end", x.noteOf(1, 0), 1030000);
        Due.is("upper part at the other end", x.noteOf(2, 0), 970000);
    }

    private static void promise14NoteLimit() {
        SurdFractions x = new SurdFractions();
        for (int i = 1; i <= 8; i++) {
            note(x, String.valueOf(i), i - 1);
        }
        note(x, "9", LIMIT);
        note(x, "3", NOT_POSSIBLE);
        note(x, "7;1", NOT_POSSIBLE);
        note(x, "1;201", NOT_POSSIBLE);
        note(x, "", NOT_POSSIBLE);
        Due.is("full: count(0)", x.count(0), 8);
        Due.is("full: strike(0)", x.strike(0), 7);
        note(x, "9", 7);
    }

    private static void promise15Strike() {
        SurdFractions x = new SurdFractions();
        Due.is("strike(0) of none", x.strike(0), NOT_POSSIBLE);
        for (int i = 1; i <= 4; i++) {
            note(x, String.valueOf(i), i - 1);
        }
        Due.is("strike(-1)", x.strike(-1), INVALID);
        Due.is("strike(least)", x.strike(LEAST_INT), INVALID);
        Due.is("strike(4)", x.strike(4), NOT_POSSIBLE);
        Due.is("strike(greatest)", x.strike(GREATEST_INT), NOT_POSSIBLE);
        Due.is("strike(1)", x.strike(1), 3);
        book("one struck", x, 1, 1, 3, 1, 4, 1);
        Due.is("strike(2)", x.strike(2), 2);
        book("the last struck", x, 1, 1, 3, 1);
        Due.is("strike(0)", x.strike(0), 1);
        Due.is("strike(0)", x.strike(0), 0);
        Due.is("strike(0)", x.strike(0), NOT_POSSIBLE);
        note(x, "2", 0);
        book("noted anew", x, 2, 1);
    }

    private static void promise16StrikeAll() {
        SurdFractions x = new SurdFractions();
        Due.is("strikeAll() of none", x.strikeAll(), 0);
        Due.is("a change too", x.count(2), 1);
        note(x, "1", 0);
        note(x, "2", 1);
        Due.is("strikeAll()", x.strikeAll(), 2);
        Due.is("count(0)", x.count(0), 0);
        Due.is("noteOf(0, 0)", x.noteOf(0, 0), NOT_FOUND);
        Due.is("undo()", x.undo(), 2 + 1);
        book("brought back", x, 1, 1, 2, 1);
    }

    private static void promise17NoteOf() {
        SurdFractions x = new SurdFractions();
        note(x, "1;3", 0);
        note(x, "-3;2", 1);
        note(x, "1;2,2", 0);
        note(x, "1;2", 2);
        book("noted", x, 7, 5, 4, 3, 3, 2, -5, 2);
        int[] above = {0, 0, 1, 0};
        int[] convergents = {1, 0, 1, 0};
        for (int i = 0; i < 4; i++) {
            Due.is("noteOf(" + i + ", 2)", x.noteOf(i, 2), above[i]);
            Due.is("noteOf(" + i + ", 3)", x.noteOf(i, 3), convergents[i]);
        }
        Due.is("surd(0, 6, -1)", x.surd(0, 6, -1), 0);
        Due.is("noteOf(0, 0)", x.noteOf(0, 0), 999995);
        Due.is("noteOf(0, 2)", x.noteOf(0, 2), 0);
        // -3;1,1,4,.. goes by -3, -2, -5/2.
        Due.is("noteOf(0, 3)", x.noteOf(0, 3), 1);
        int[][] wrong = {{-1, 0}, {LEAST_INT, 0}, {0, -1}, {0, 4}, {9, 4}, {-1, 4}, {GREATEST_INT, LEAST_INT}};
        for (int[] one : wrong) {
            Due.is("noteOf of a wrong argument", x.noteOf(one[0], one[1]), INVALID);
        }
        Due.is("noteOf(4, 0)", x.noteOf(4, 0), NOT_FOUND);
        Due.is("noteOf(greatest, 3)", x.noteOf(GREATEST_INT, 3), NOT_FOUND);
    }

    private static void promise18Count() {
        SurdFractions x = new SurdFractions();
        note(x, "1", 0);
        note(x, "1;2", 0);
        note(x, "12", 2);
        int[] due = {3, 2, 3, 2};
        for (int i = 0; i < 4; i++) {
            Due.is("count(" + i + ")", x.count(i), due[i]);
        }
        Due.is("surd(0, 3, 1)", x.surd(0, 3, 1), 0);
        Due.is("by the root of 3: count(1)", x.count(1), 1);
        Due.is("count(2)", x.count(2), 4);
        Due.is("strikeAll()", x.strikeAll(), 3);
        Due.is("count(1)", x.count(1), 0);
        Due.is("at most 4: count(2)", x.count(2), 4);
        int[] wrong = {-1, 4, LEAST_INT, GREATEST_INT};
        for (int one : wrong) {
            Due.is("count of a wrong argument", x.count(one), INVALID);
        }
    }

    private static void promise19Undo() {
        SurdFractions x = new SurdFractions();
        Due.is("undo() of none", x.undo(), NOT_POSSIBLE);
        note(x, "1", 0);
        note(x, "2", 1);
        Due.is("surd(0, 5, 1)", x.surd(0, 5, 1), 0);
        book("before", x, 2, 1, 1, 1);
        Due.is("undo() of surd", x.undo(), 2);
        isSurd("after undo", x, 0, 2, 1);
        terms(x, 1, 2, 2);
        isConvergent(x, 3, 17, 12);
        again(x, 1, 1, 2, 1, 1);
        book("after undo", x, 1, 1, 2, 1);
        Due.is("the text stays", x.count(3), 1);
        Due.is("undo() of note", x.undo(), 1);
        book("after undo of note", x, 1, 1);
        Due.is("strike(0)", x.strike(0), 0);
        Due.is("undo() of strike", x.undo(), 1);
        book("after undo of strike", x, 1, 1);
        Due.is("undo()", x.undo(), 0);
        Due.is("undo() of none", x.undo(), NOT_POSSIBLE);
        Due.is("nothing left", x.count(0), 0);
    }

    private static void promise19UndoHistory() {
        SurdFractions x = new SurdFractions();
        int[] roots = {3, 5, 6, 7, 8, 10, 11};
        for (int root : roots) {
            Due.is("surd(0, " + root + ", 1)", x.surd(0, root, 1), 0);
        }
        int[] back = {10, 8, 7, 6};
        for (int i = 0; i < 4; i++) {
            Due.is("undo()", x.undo(), 3 - i);
            isSurd("back", x, 0, back[i], 1);
        }
        Due.is("the older ones are dropped", x.undo(), NOT_POSSIBLE);
        Due.is("surd(0, 12, 1)", x.surd(0, 12, 1), 0);
        Due.is("undo()", x.undo(), 0);
        isSurd("back", x, 0, 6, 1);
    }

    private static void promise20Type() {
        SurdFractions x = new SurdFractions();
        int[] wrong = {31, 127, -1, 0, LEAST_INT, GREATEST_INT, 65536 + 49};
        for (int one : wrong) {
            Due.is("type of a wrong argument", x.type(one), INVALID);
        }
        Due.is("type(32)", x.type(32), 1);
        Due.is("type(126)", x.type(126), 2);
        for (int i = 3; i <= 40; i++) {
            Due.is("type(49)", x.type(49), i);
        }
        Due.is("type(49) beyond 40", x.type(49), LIMIT);
        Due.is("type(31) beyond 40", x.type(31), INVALID);
        Due.is("count(3)", x.count(3), 40);
        Due.is("no change", x.count(2), 0);
    }

    private static void promise21ClearText() {
        SurdFractions x = new SurdFractions();
        Due.is("clearText() of none", x.clearText(), 0);
        write(x, "1;2");
        Due.is("clearText()", x.clearText(), 3);
        Due.is("count(3)", x.count(3), 0);
        Due.is("fault(0)", x.fault(0), 0);
        write(x, "0123456789012345678901234567890123456789");
        Due.is("clearText() of 40", x.clearText(), 40);
        Due.is("no change", x.undo(), NOT_POSSIBLE);
    }

    private static void promise22Fault() {
        SurdFractions x = new SurdFractions();
        String[] good = {
            "0", "7", "10", "999", "-0", "-1", "-999", "1;1", "0;999", "-0;1", "1;2,3", "-12;34,567,8,9", "0;10,100",
            "1;1,1,1,1,1,1,1,1,1,1,1,1,1,1,1,1,1,1,11",
        };
        for (String text : good) {
            faultOf(x, text, NOT_FOUND, NOT_FOUND);
        }
        String[] early = {"", "-", "1;", "1;2,", "-0;"};
        for (String text : early) {
            faultOf(x, text, text.length(), 1);
        }
        String[] notAllowed = {
            "?1", "1?", "01", "00", "1234", "--1", "+1", " 1", "1 ", "1,2", "1;2;3", "1;-2", "1;;2", "1;2,,3", "1;2345",
            "1;2,3456", "-01", "1-", "1;1,1-", ";1", ",1", "1.5",
        };
        int[] places = {0, 1, 1, 1, 3, 1, 0, 0, 1, 1, 3, 2, 2, 4, 5, 7, 2, 1, 5, 0, 0, 1};
        for (int i = 0; i < places.length; i++) {
            faultOf(x, notAllowed[i], places[i], 1);
        }
        faultOf(x, "1;0", 2, 2);
        faultOf(x, "1;00", 2, 2);
        faultOf(x, "1;05", 2, 2);
        faultOf(x, "1;0x", 2, 2);
        faultOf(x, "1;2,0", 4, 2);
        faultOf(x, "1;0,x", 2, 2);
        faultOf(x, "01;0", 1, 1);
        Due.is("fault(-1)", x.fault(-1), INVALID);
        Due.is("fault(2)", x.fault(2), INVALID);
        write(x, "1");
        Due.is("fault(2) of none", x.fault(2), INVALID);
        Due.is("fault(greatest)", x.fault(GREATEST_INT), INVALID);
    }

    private static void promise23Told() {
        SurdFractions x = new SurdFractions();
        isTold(x, "1;2,2", 7, 5, 3, 3, 0);
        isTold(x, "1;2,3", 10, 7, 3, 2, 1);
        isTold(x, "1;2,2,2", 17, 12, 4, 4, 1);
        isTold(x, "2;2,2", 12, 5, 3, 0, 1);
        isTold(x, "1;3,2", 9, 7, 3, 1, 0);
        isTold(x, "0", 0, 1, 1, 0, 0);
        isTold(x, "-0", 0, 1, 1, 0, 0);
        isTold(x, "-0;4", 1, 4, 2, 0, 0);
        isTold(x, "-3;1,2", -7, 3, 3, 0, 0);
        isTold(x, "1;1", 2, 1, 2, 1, 1);
        isTold(of(-99, 999, 99), "-1;3,7", -15, 22, 3, 3, 0);
        isTold(of(0, 2, 99), "-0;70", 1, 70, 2, 2, 1);
        int[] wrong = {-1, 5, LEAST_INT, GREATEST_INT};
        for (int one : wrong) {
            Due.is("told of a wrong argument", x.told(one), INVALID);
        }
        write(x, "1;");
        for (int i = 0; i < 5; i++) {
            Due.is("told(" + i + ") of a fault", x.told(i), NOT_POSSIBLE);
        }
        Due.is("told(5) of a fault", x.told(5), INVALID);
    }

    private static void promise23ToldLimits() {
        SurdFractions x = new SurdFractions();
        write(x, "999;999,999,999,999,999,999,999,999,999");
        long[] due = {LIMIT, LIMIT, 10, 0, LIMIT};
        for (int i = 0; i < 5; i++) {
            Due.is("told(" + i + ") of too great parts", x.told(i), due[i]);
        }
        isTold(x, "0;33,37,722,34,9,1,33,722,37,33", 272504100000001L, 9000000000000000L, 11, 0, LIMIT);
        isTold(x, "33;37,722,34,9,1,33,722,37,33", 9000000000000000L, 272504100000001L, 10, 0, LIMIT);
        String[] aboveLimit = {"0;1,196,999,999,999,999,9,5", "1;123,999,999,999,999,9,8"};
        for (String text : aboveLimit) {
            write(x, text);
            Due.is("told(0) of " + text, x.told(0), LIMIT);
            Due.is("told(1) of " + text, x.told(1), LIMIT);
        }
        isTold(x, "1;200", 201, 200, 2, 1, 0);
        isTold(x, "1;201", 202, 201, 2, 1, LIMIT);
        isTold(x, "999;30", 29971, 30, 2, 0, 1);
        isTold(x, "999;33", 32968, 33, 2, 0, LIMIT);
        isTold(x, "-999;33", -32966, 33, 2, 0, LIMIT);
        isTold(x, "297;33,1,2", 30000, 101, 4, 0, 1);
    }

    private static void errorsChangeNothing() {
        SurdFractions x = of(3, 7, 2);
        note(x, "2;1", 0);
        int before = x.count(2);
        Due.is("surd(0, 4, 1)", x.surd(0, 4, 1), NOT_POSSIBLE);
        Due.is("surd(0, 2, 0)", x.surd(0, 2, 0), INVALID);
        Due.is("note()", x.note(), NOT_POSSIBLE);
        Due.is("strike(5)", x.strike(5), NOT_POSSIBLE);
        Due.is("strike(-1)", x.strike(-1), INVALID);
        Due.is("type(1)", x.type(1), INVALID);
        Due.is("count(2)", x.count(2), before);
        Due.is("count(3)", x.count(3), 3);
        isSurd("after errors", x, 3, 7, 2);
        book("after errors", x, 3, 1);
    }
}
