/** What the document says of the equation of squares (promises 11 to 13). */
final class SquaresSentences extends Calls {
    private SquaresSentences() {
    }

    @Says(in = "Promise 11", value = "with x and y at least 0")
    static void promise11_xAndYAreAtLeast0() {
        // x or y may be 0 itself; below 0 none is told, nor counted.
        isSolution(of(0, 2, 1), 1, 0, 1, 0);
        isSolution(of(0, 2, 1), 1, 1, 3, 2);
        isSolution(of(0, 2, 1), 49, 0, 7, 0);
        isSolution(of(0, 2, 1), -2, 0, 0, 1);
        isSolution(of(0, 60, 1), -60, 0, 0, 1);
        isSolution(of(0, 51, 1), -51, 0, 0, 1);
        Due.is("root of 51: solutions(-51)", of(0, 51, 1).solutions(-51), 3);
        Due.is("root of 156: solutions(1)", of(0, 156, 1).solutions(1), 4);
    }

    @Says(in = "Promise 11", value = "y at most 5000")
    static void promise11_yIsAtMost5000() {
        // No surd has a solution with y of 5000 or 5001.
        isSolution(of(0, 156, 1), 1, 3, 62425, 4998);
        isSolution(of(0, 156, 1), 1, 4, NOT_FOUND, NOT_FOUND);
        isSolution(of(0, 6, 1), 19, 7, 12245, 4999);
        isSolution(of(0, 6, 1), 19, 8, NOT_FOUND, NOT_FOUND);
        isSolution(of(0, 51, 1), -51, 2, 35700, 4999);
        // 125150 * 125150 - 626 * 5002 * 5002 = -4
        isSolution(of(0, 626, 1), -4, 0, 50, 2);
        isSolution(of(0, 626, 1), -4, 1, NOT_FOUND, NOT_FOUND);
        // 70576 * 70576 - 199 * 5003 * 5003 = -15
        isSolution(of(0, 199, 1), -15, 0, 268, 19);
        isSolution(of(0, 199, 1), -15, 1, NOT_FOUND, NOT_FOUND);
    }

    @Says(in = "Promise 11", value = "solutions are in order of y")
    static void promise11_solutionsAreInOrderOfY() {
        int[][] due = {
            {3, 1}, {5, 3}, {13, 9}, {27, 19}, {75, 53}, {157, 111}, {437, 309}, {915, 647}, {2547, 1801}, {5333, 3771},
        };
        for (int i = 0; i < due.length; i++) {
            isSolution(of(0, 2, 1), 7, i, due[i][0], due[i][1]);
        }
        isSolution(of(0, 2, 1), 7, due.length, NOT_FOUND, NOT_FOUND);
    }

    @Says(in = "Promise 11", value = "`n`: -60 to 60, not 0")
    static void promise11_nIsFromMinus60To60AndNot0() {
        isSolution(of(0, 21, 1), 60, 0, 9, 1);
        isSolution(of(0, 61, 1), -60, 0, 1, 1);
        isSolution(of(0, 2, 1), -1, 0, 1, 1);
        SurdFractions x = new SurdFractions();
        range("solution(.., 0, 0)", n -> x.solution(n, 0, 0), -60, 60);
        range("solution(.., 0, 1)", n -> x.solution(n, 0, 1), -60, 60);
        Due.is("solution(0, 0, 0)", x.solution(0, 0, 0), INVALID);
        Due.is("solution(0, 0, 1)", x.solution(0, 0, 1), INVALID);
    }

    @Says(in = "Promise 11", value = "`index`: 0 for the first one, and so on")
    static void promise11_indexIs0ForTheFirst() {
        SurdFractions x = of(17, 61, -5);
        int[][] due = {{1, 1}, {62, 8}, {367, 47}, {5186, 664}, {6709, 859}};
        for (int i = 0; i < due.length; i++) {
            isSolution(x, -60, i, due[i][0], due[i][1]);
        }
        isSolution(x, -60, 5, NOT_FOUND, NOT_FOUND);
        Due.is("the greatest index", x.solution(-60, GREATEST_INT, 0), NOT_FOUND);
        Due.is("index -1", x.solution(-60, -1, 0), INVALID);
    }

    @Says(in = "Promise 11", value = "`part`: 0: x; 1: y")
    static void promise11_partIs0ForXAnd1ForY() {
        SurdFractions x = new SurdFractions();
        Due.is("solution(1, 2, 0)", x.solution(1, 2, 0), 17);
        Due.is("solution(1, 2, 1)", x.solution(1, 2, 1), 12);
        range("solution(1, 2, ..)", part -> x.solution(1, 2, part), 0, 1);
    }

    @Says(in = "Promise 11", value = "Returns the number")
    static void promise11_returnsTheNumber() {
        isSolution(of(0, 61, 1), -1, 0, 29718, 3805);
        isSolution(of(0, 61, 1), 3, 0, 8, 1);
        // The surd's p and q have no part in it, nor is d brought to lowest terms.
        isSolution(of(-99, 8, 2), 1, 1, 3, 1);
        isSolution(of(-99, 8, 2), 4, 1, 6, 2);
        isSolution(of(0, 624, 1), 4, 3, 124850, 4998);
    }

    @Says(in = "Promise 11", value = "INVALID_ARGUMENT if an argument is out of range, or index is negative")
    static void promise11_invalidIfAnArgumentIsOutOfRange() {
        SurdFractions x = new SurdFractions();
        outOfRange("solution(.., 0, 0)", n -> x.solution(n, 0, 0), -61, 61);
        outOfRange("solution(1, 0, ..)", part -> x.solution(1, 0, part), -1, 2);
        outOfRange("solution(5, 0, ..), which has none", part -> x.solution(5, 0, part), -1, 2);
        outOfRange("solution(1, 6, ..), which is not found", part -> x.solution(1, 6, part), -1, 2);
    }

    @Says(in = "Promise 11", value = "or index is negative")
    static void promise11_invalidIfIndexIsNegative() {
        SurdFractions x = new SurdFractions();
        Due.is("solution(1, -1, 0)", x.solution(1, -1, 0), INVALID);
        Due.is("solution(1, -1, 1)", x.solution(1, -1, 1), INVALID);
        Due.is("solution(1, least, 0)", x.solution(1, LEAST_INT, 0), INVALID);
        Due.is("solution(5, -1, 0), which has none", x.solution(5, -1, 0), INVALID);
    }

    @Says(in = "Promise 11", value = "NOT_FOUND if there are not so many")
    static void promise11_notFoundIfThereAreNotSoMany() {
        isSolution(of(0, 2, 1), 1, 5, 3363, 2378);
        isSolution(of(0, 2, 1), 1, 6, NOT_FOUND, NOT_FOUND);
        isSolution(of(0, 2, 1), 1, 7, NOT_FOUND, NOT_FOUND);
        isSolution(of(0, 2, 1), 1, GREATEST_INT, NOT_FOUND, NOT_FOUND);
        isSolution(of(0, 2, 1), 5, 0, NOT_FOUND, NOT_FOUND);
        isSolution(of(0, 991, 1), -10, 0, NOT_FOUND, NOT_FOUND);
        isSolution(of(0, 2, 1), -60, 0, NOT_FOUND, NOT_FOUND);
    }

    @Says(in = "Promise 12", value = "Counts such solutions.")
    static void promise12_countsSuchSolutions() {
        // Of such with y of 0, with x of 0, and with y near 5000 on either side.
        Due.is("root of 2: solutions(1)", new SurdFractions().solutions(1), 6);
        Due.is("root of 2: solutions(-2)", new SurdFractions().solutions(-2), 6);
        Due.is("root of 6: solutions(19)", of(0, 6, 1).solutions(19), 8);
        Due.is("root of 626: solutions(-4)", of(0, 626, 1).solutions(-4), 1);
    }

    @Says(in = "Promise 12", value = "`n`: -60 to 60, not 0")
    static void promise12_nIsFromMinus60To60AndNot0() {
        Due.is("root of 21: solutions(60)", of(0, 21, 1).solutions(60), 11);
        Due.is("root of 61: solutions(-60)", of(0, 61, 1).solutions(-60), 5);
        SurdFractions x = new SurdFractions();
        range("solutions", x::solutions, -60, 60);
        Due.is("solutions(0)", x.solutions(0), INVALID);
        Due.is("solutions(-1)", x.solutions(-1), 5);
    }

    @Says(in = "Promise 12", value = "Returns how many")
    static void promise12_returnsHowMany() {
        Due.is("none", new SurdFractions().solutions(5), 0);
        Due.is("one", of(0, 991, 1).solutions(1), 1);
        Due.is("two", of(0, 61, 1).solutions(4), 2);
        Due.is("thirteen", new SurdFractions().solutions(49), 13);
    }

    @Says(in = "Promise 12", value = "INVALID_ARGUMENT if n is out of range")
    static void promise12_invalidIfNIsOutOfRange() {
        outOfRange("solutions", new SurdFractions()::solutions, -61, 61);
        Due.is("solutions(0)", of(0, 7, 1).solutions(0), INVALID);
    }

    private static void least(int d, long x, long y) {
        SurdFractions program = of(-9, d, 7);
        Due.is("root of " + d + ": leastSolution(0)", program.leastSolution(0), x);
        Due.is("root of " + d + ": leastSolution(1)", program.leastSolution(1), y);
    }

    @Says(in = "Promise 13", value =
            "Returns a part of the least solution, with y above 0, of x * x - d * y * y = 1, whatever y is.")
    static void promise13_theLeastSolutionHasYAbove0AndIsWhateverYIs() {
        // 1 and 0 are a solution always.
        least(2, 3, 2);
        least(3, 2, 1);
        least(624, 25, 1);
        // Where the period is odd, the first solution is one for -1.
        least(13, 649, 180);
        least(61, 1766319049L, 226153980L);
        least(109, 158070671986249L, 15140424455100L);
        least(997, 14418057673L, 456624468);
    }

    @Says(in = "Promise 13", value = "`part`: 0: x; 1: y")
    static void promise13_partIs0ForXAnd1ForY() {
        SurdFractions x = of(0, 7, 1);
        Due.is("leastSolution(0)", x.leastSolution(0), 8);
        Due.is("leastSolution(1)", x.leastSolution(1), 3);
        range("leastSolution", x::leastSolution, 0, 1);
    }

    @Says(in = "Promise 13", value = "Returns the number")
    static void promise13_returnsTheNumber() {
        least(5, 9, 4);
        least(8, 3, 1);
        least(999, 102688615, 3248924);
    }

    @Says(in = "Promise 13", value = "INVALID_ARGUMENT if part is out of range")
    static void promise13_invalidIfPartIsOutOfRange() {
        outOfRange("leastSolution", new SurdFractions()::leastSolution, -1, 2);
        outOfRange("leastSolution above the limit", of(0, 991, 1)::leastSolution, -1, 2);
    }

    @Says(in = "Promise 13", value = "LIMIT_REACHED if x is above 9000000000000000")
    static void promise13_limitReachedIfXIsAboveTheLimit() {
        // Of all up to 999 this is the greatest one below the limit ..
        least(652, 8212499464321351L, 321626301297510L);
        // .. and this the least one above it, of 10085143557001249 and 324820602522300.
        least(964, LIMIT, LIMIT);
        least(991, LIMIT, LIMIT);
    }
}
