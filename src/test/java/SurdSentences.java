/** What the document says of the surd, its terms and where they come again (promises 1 to 5). */
final class SurdSentences extends Calls {
    private SurdSentences() {
    }

    @Says(in = "The surd", value =
            "with whole numbers p (-99 to 99), d (2 to 999, no square of a whole number) and q (-99 to 99, not "
            + "0)")
    static void theSurd_dIsNoSquareOfAWholeNumber() {
        for (int d = 2; d <= 999; d++) {
            int root = (int) Math.round(Math.sqrt(d));
            SurdFractions x = new SurdFractions();
            Due.is("surd(0, " + d + ", 1)", x.surd(0, d, 1), root * root == d ? NOT_POSSIBLE : 0);
        }
    }

    @Says(in = "The surd", value = "At first p is 0, d is 2 and q is 1.")
    static void theSurd_atFirstPIs0AndDIs2AndQIs1() {
        isSurd("at first", new SurdFractions(), 0, 2, 1);
    }

    @Says(in = "Terms and convergents", value = "the term k is the greatest whole number not above sk")
    static void terms_aTermIsTheGreatestWholeNumberNotAbove() {
        terms(of(0, 2, 1), 1);
        terms(of(0, 2, -1), -2, 1, 1, 2);
        terms(of(-99, 999, 99), -1, 3, 7);
        terms(of(0, 2, 99), 0, 70, 280, 140);
        terms(of(0, 2, -99), -1, 1, 69, 280, 140);
        // All these are but 0.00016.. off a whole number.
        terms(of(68, 962, 99), 1);
        terms(of(68, 962, -99), -2);
        terms(of(-31, 962, 99), 0);
        terms(of(-31, 962, -99), -1);
        terms(of(-31, 960, 99), -1);
        terms(of(-31, 960, -99), 0);
    }

    @Says(in = "Terms and convergents", value = "(All this exactly.)")
    static void terms_allThisExactly() {
        SurdFractions x = of(0, 997, 97);
        int[] last = {3, 1, 1, 3};
        for (int i = 0; i < last.length; i++) {
            Due.is("term(" + (396 + i) + ")", x.term(396 + i), last[i] + 1000);
        }
        x = of(-98, 999, -99);
        int[] far = {11, 6258, 11};
        for (int i = 0; i < far.length; i++) {
            Due.is("term(" + (122 + i) + ")", x.term(122 + i), far[i] + 1000);
        }
    }

    @Says(in = "Terms and convergents", value = "As s is no fraction, there is no end")
    static void terms_thereIsNoEnd() {
        Due.is("golden: term(399)", of(1, 5, 2).term(399), 1001);
        Due.is("root of 2: term(399)", new SurdFractions().term(399), 1002);
    }

    @Says(in = "Terms and convergents", value =
            "the lead is the least number j, and the period the least number n above 0, with sj being the same "
            + "as s(j+n)")
    static void terms_leadAndPeriodAreTheLeast() {
        int[][] surds = {
            {1, 5, 2}, {1, 2, 1}, {2, 7, 1}, {0, 2, 1}, {99, 2, 1}, {0, 2, 99}, {99, 2, -1}, {-64, 2, -99}, {5, 8, 2},
            {-3, 2, 6}, {1, 5, 1}, {1, 2, 5},
        };
        int[] leads = {0, 0, 0, 1, 1, 2, 3, 7, 1, 3, 1, 2};
        int[] periods = {1, 1, 4, 1, 1, 2, 1, 6, 4, 6, 1, 1};
        for (int i = 0; i < surds.length; i++) {
            again(of(surds[i][0], surds[i][1], surds[i][2]), leads[i], periods[i]);
        }
    }

    @Says(in = "Promise 1", value = "Creates the square root of 2, with an empty book.")
    static void promise1_createsTheRootOf2WithAnEmptyBook() {
        SurdFractions x = new SurdFractions();
        note(of(3, 5, 7), "1", 0);
        isSurd("new", x, 0, 2, 1);
        terms(x, 1, 2, 2, 2);
        isConvergent(x, 3, 17, 12);
        book("new", x);
        Due.is("new: noteOf(0, 0)", x.noteOf(0, 0), NOT_FOUND);
        Due.is("new: undo()", x.undo(), NOT_POSSIBLE);
    }

    @Says(in = "Promise 2", value = "Sets the surd.")
    static void promise2_setsTheSurd() {
        SurdFractions x = new SurdFractions();
        note(x, "1", 0);
        note(x, "2", 1);
        Due.is("surd(4, 7, 5)", x.surd(4, 7, 5), 0);
        isSurd("set", x, 4, 7, 5);
        terms(x, 1, 3, 26, 4, 2, 1, 2, 4, 26);
        again(x, 2, 6, 26, 4, 0);
        isConvergent(x, 3, 424, 319);
        isNearest(x, 10, 4, 3);
        Due.is("surd(3, 8, 3)", x.surd(3, 8, 3), 0);
        isSurd("set", x, 3, 8, 3);
        book("by the later surd", x, 2, 1, 1, 1);
    }

    @Says(in = "Promise 2", value = "`p`: -99 to 99")
    static void promise2_pIsFromMinus99To99() {
        isSurd("least p", of(-99, 7, 5), -99, 7, 5);
        isSurd("greatest p", of(99, 7, 5), 99, 7, 5);
        SurdFractions x = new SurdFractions();
        range("surd(.., 7, 5)", p -> x.surd(p, 7, 5), -99, 99);
    }

    @Says(in = "Promise 2", value = "`d`: 2 to 999")
    static void promise2_dIsFrom2To999() {
        isSurd("least d", of(4, 2, 5), 4, 2, 5);
        isSurd("greatest d", of(4, 999, 5), 4, 999, 5);
        SurdFractions x = new SurdFractions();
        range("surd(4, .., 5)", d -> x.surd(4, d, 5), 2, 999);
    }

    @Says(in = "Promise 2", value = "`q`: -99 to 99, not 0")
    static void promise2_qIsFromMinus99To99AndNot0() {
        isSurd("least q", of(4, 7, -99), 4, 7, -99);
        isSurd("greatest q", of(4, 7, 99), 4, 7, 99);
        SurdFractions x = new SurdFractions();
        range("surd(4, 7, ..)", q -> x.surd(4, 7, q), -99, 99);
        Due.is("surd(4, 7, 0)", x.surd(4, 7, 0), INVALID);
        Due.is("surd(4, 7, 1)", x.surd(4, 7, 1), 0);
        Due.is("surd(4, 7, -1)", x.surd(4, 7, -1), 0);
    }

    @Says(in = "Promise 2", value = "Returns 0")
    static void promise2_returns0() {
        SurdFractions x = new SurdFractions();
        Due.is("surd(-9, 11, 13)", x.surd(-9, 11, 13), 0);
        Due.is("the same once more", x.surd(-9, 11, 13), 0);
        Due.is("surd(99, 999, -99)", x.surd(99, 999, -99), 0);
    }

    @Says(in = "Promise 2", value = "INVALID_ARGUMENT if an argument is out of range")
    static void promise2_invalidIfAnArgumentIsOutOfRange() {
        SurdFractions x = of(4, 7, 5);
        int[] numbers = {LEAST_INT, -1000, -100, 1000, 1001, GREATEST_INT};
        for (int number : numbers) {
            Due.is("surd(" + number + ", 7, 5)", x.surd(number, 7, 5), INVALID);
            Due.is("surd(4, " + number + ", 5)", x.surd(4, number, 5), INVALID);
            Due.is("surd(4, 7, " + number + ")", x.surd(4, 7, number), INVALID);
            Due.is("all out of range", x.surd(number, number, number), INVALID);
        }
        isSurd("after errors", x, 4, 7, 5);
    }

    @Says(in = "Promise 2", value = "NOT_POSSIBLE if d is a square")
    static void promise2_notPossibleIfDIsASquare() {
        SurdFractions x = of(4, 7, 5);
        for (int root = 2; root <= 31; root++) {
            Due.is("surd(4, " + root * root + ", 5)", x.surd(4, root * root, 5), NOT_POSSIBLE);
            Due.is("one above a square", x.surd(4, root * root + 1, 5), 0);
            Due.is("one below a square", x.surd(4, root * root - 1, 5), 0);
        }
        isSurd("after the last that was none", x, 4, 960, 5);
    }

    @Says(in = "Promise 3", value = "`what`: 0: p; 1: d; 2: q")
    static void promise3_whatIs0ForPAnd1ForDAnd2ForQ() {
        SurdFractions x = of(-7, 11, 13);
        Due.is("partOf(0)", x.partOf(0), 993);
        Due.is("partOf(1)", x.partOf(1), 1011);
        Due.is("partOf(2)", x.partOf(2), 1013);
        range("partOf", x::partOf, 0, 2);
    }

    @Says(in = "Promise 3", value = "Returns the number plus 1000")
    static void promise3_returnsTheNumberPlus1000() {
        SurdFractions x = of(-99, 999, -99);
        Due.is("least p", x.partOf(0), 901);
        Due.is("greatest d", x.partOf(1), 1999);
        Due.is("least q", x.partOf(2), 901);
        x = of(99, 2, 99);
        Due.is("greatest p", x.partOf(0), 1099);
        Due.is("least d", x.partOf(1), 1002);
        Due.is("greatest q", x.partOf(2), 1099);
        Due.is("p of 0", of(0, 2, 1).partOf(0), 1000);
        // Not brought to lowest terms.
        isSurd("with a common divisor", of(6, 12, -18), 6, 12, -18);
    }

    @Says(in = "Promise 3", value = "INVALID_ARGUMENT if what is out of range")
    static void promise3_invalidIfWhatIsOutOfRange() {
        outOfRange("partOf", of(4, 7, 5)::partOf, -1, 3);
    }

    @Says(in = "Promise 4", value = "`index`: 0 to 399")
    static void promise4_indexIsFrom0To399() {
        SurdFractions x = of(0, 997, 97);
        Due.is("term(0)", x.term(0), 1000);
        Due.is("term(1)", x.term(1), 1003);
        Due.is("term(398)", x.term(398), 1001);
        Due.is("term(399)", x.term(399), 1003);
        range("term", x::term, 0, 399);
    }

    @Says(in = "Promise 4", value = "Returns the term plus 1000")
    static void promise4_returnsTheTermPlus1000() {
        Due.is("the least one", of(99, 968, -1).term(0), 869);
        Due.is("a first one of 0", of(0, 2, 99).term(0), 1000);
        Due.is("the greatest first one", of(99, 968, 1).term(0), 1130);
        Due.is("the greatest one", of(-98, 999, -99).term(123), 7258);
    }

    @Says(in = "Promise 4", value = "INVALID_ARGUMENT if index is out of range")
    static void promise4_invalidIfIndexIsOutOfRange() {
        outOfRange("term", of(0, 997, 97)::term, -1, 400);
    }

    @Says(in = "Promise 5", value =
            "`what`: 0: the lead; 1: the period; 2: the greatest term of the period; 3: how many unlike terms "
            + "the period has; 4: 1 if the period without its last term is the same read backwards, otherwise 0")
    static void promise5_whatIsFrom0To4() {
        SurdFractions x = of(0, 19, 1);
        again(x, 1, 6, 8, 4, 1);
        range("again", x::again, 0, 4);
    }

    @Says(in = "Promise 5", value = "0: the lead")
    static void promise5_what0IsTheLead() {
        Due.is("none ahead", of(1, 5, 2).again(0), 0);
        Due.is("one ahead", of(0, 61, 1).again(0), 1);
        Due.is("the longest", of(-64, 2, -99).again(0), 7);
    }

    @Says(in = "Promise 5", value = "1: the period")
    static void promise5_what1IsThePeriod() {
        Due.is("of one term", of(0, 2, 1).again(1), 1);
        Due.is("of two terms", of(0, 3, 1).again(1), 2);
        Due.is("of three terms", of(1, 10, 3).again(1), 3);
        Due.is("of 398 terms", of(-99, 657, -59).again(1), 398);
        Due.is("of 400 terms", of(21, 928, 49).again(1), 400);
    }

    @Says(in = "Promise 5", value = "2: the greatest term of the period")
    static void promise5_what2IsTheGreatestTermOfThePeriod() {
        Due.is("a greater one ahead of the period", of(99, 2, 1).again(2), 2);
        Due.is("the first one", of(2, 7, 1).again(2), 4);
        Due.is("the last one", of(0, 7, 1).again(2), 4);
        Due.is("one within", of(1, 19, 3).again(2), 8);
        Due.is("of ones", of(1, 5, 2).again(2), 1);
    }

    @Says(in = "Promise 5", value = "3: how many unlike terms the period has")
    static void promise5_what3IsHowManyUnlikeTermsThePeriodHas() {
        Due.is("one term", of(0, 2, 1).again(3), 1);
        Due.is("two terms", of(0, 3, 1).again(3), 2);
        Due.is("1, 1, 1, 4", of(0, 7, 1).again(3), 2);
        Due.is("others ahead of the period", of(99, 2, -1).again(3), 1);
        Due.is("2, 1, 3, 1, 2, 8", of(0, 19, 1).again(3), 4);
        Due.is("of 400 terms", of(21, 928, 49).again(3), 24);
    }

    @Says(in = "Promise 5", value = "4: 1 if the period without its last term is the same read backwards, otherwise 0")
    static void promise5_what4IsWhetherThePeriodWithoutItsLastTermReadsTheSameBackwards() {
        Due.is("nothing is left", of(0, 2, 1).again(4), 1);
        Due.is("one is left", of(0, 3, 1).again(4), 1);
        Due.is("1, 1, 1", of(0, 7, 1).again(4), 1);
        Due.is("2, 1, 3, 1, 2", of(0, 19, 1).again(4), 1);
        Due.is("1, 4, 3, 1, 2, 2, 1, 3, 4, 1", of(0, 61, 1).again(4), 1);
        Due.is("1, 2, with 1 behind", of(1, 10, 3).again(4), 0);
        Due.is("4, 1, 1", of(2, 7, 1).again(4), 0);
        Due.is("1, 3, 1, 1, 1", of(-3, 2, 6).again(4), 0);
    }

    @Says(in = "Promise 5", value = "Returns the number")
    static void promise5_returnsTheNumber() {
        again(of(0, 61, 1), 1, 11, 14, 5, 1);
        again(of(-64, 2, -99), 7, 6, 30, 6, 0);
    }

    @Says(in = "Promise 5", value = "INVALID_ARGUMENT if what is out of range")
    static void promise5_invalidIfWhatIsOutOfRange() {
        outOfRange("again", new SurdFractions()::again, -1, 5);
        outOfRange("again beyond the limit", of(-80, 106, -53)::again, -1, 5);
    }

    @Says(in = "Promise 5", value = "LIMIT_REACHED if the lead and the period are together above 400")
    static void promise5_limitReachedIfLeadAndPeriodAreTogetherAbove400() {
        again(of(-99, 929, 19), 1, 398, 1158, 29, 0);
        again(of(21, 928, 49), 0, 400, 186, 24, 0);
        again(of(-99, 657, -59), 2, 398, 336, 27, 0);
        // 1 and 400, 2 and 399, 3 and 704
        again(of(-77, 928, 49), LIMIT, LIMIT, LIMIT, LIMIT, LIMIT);
        again(of(-80, 106, -53), LIMIT, LIMIT, LIMIT, LIMIT, LIMIT);
        again(of(-98, 999, -99), LIMIT, LIMIT, LIMIT, LIMIT, LIMIT);
    }
}
