/** What the document says of convergents, those between them, and fractions near the surd (promises 6 to 10). */
final class ConvergentSentences extends Calls {
    private ConvergentSentences() {
    }

    @Says(in = "Terms and convergents", value =
            "The convergent k is the term 0 plus 1 divided by (the term 1 plus 1 divided by (... the term k)).")
    static void terms_theConvergentKEndsWithTheTermK() {
        SurdFractions x = of(0, 61, 1);
        int[][] due = {{7, 1}, {8, 1}, {39, 5}, {125, 16}, {164, 21}, {453, 58}};
        for (int i = 0; i < due.length; i++) {
            isConvergent(x, i, due[i][0], due[i][1]);
        }
        x = of(0, 2, -99);
        isConvergent(x, 0, -1, 1);
        isConvergent(x, 1, 0, 1);
        isConvergent(x, 2, -1, 70);
    }

    @Says(in = "Terms and convergents", value =
            "Between the convergents k - 2 and k, for k of 2 or more, stand those between: with the term k "
            + "being replaced by 1, 2 and so on up to the term less 1.")
    static void terms_theTermKIsReplacedBy1UpToTheTermLess1() {
        SurdFractions x = of(0, 61, 1);
        // Between 7 and 39/5, as the term 2 is 4; between 8 and 125/16, as the term 3 is 3.
        isBetween(x, 2, 1, 15, 2);
        isBetween(x, 2, 2, 23, 3);
        isBetween(x, 2, 3, 31, 4);
        Due.is("between(2, 4, 0)", x.between(2, 4, 0), INVALID);
        isBetween(x, 3, 1, 47, 6);
        isBetween(x, 3, 2, 86, 11);
        Due.is("between(3, 3, 0)", x.between(3, 3, 0), INVALID);
    }

    @Says(in = "Terms", value =
            "A fraction is told by its upper and lower parts, in lowest terms, the lower part above 0.")
    static void terms_aFractionIsInLowestTermsWithItsLowerPartAbove0() {
        SurdFractions x = of(0, 2, -1);
        isConvergent(x, 2, -3, 2);
        isBetween(x, 3, 1, -4, 3);
        isNearest(x, 11, -7, 5);
        isBeside(x, 11, 0, -10, 7);
        isBeside(x, 11, 1, -7, 5);
        isTold(x, "-2;1,1", -3, 2);
        note(x, "-3;2", 0);
        book("noted", x, -5, 2);
        isNearest(new SurdFractions(), 10, 7, 5);
        isTold(x, "0;2,2", 2, 5);
        isTold(x, "-0", 0, 1);
    }

    @Says(in = "Nearness", value =
            "One fraction is nearer than another one if its distance from s is less (two fractions are never "
            + "as near, if they are not the same).")
    static void nearness_aFractionIsNearerIfItsDistanceIsLess() {
        SurdFractions x = new SurdFractions();
        // 193/165 and 209/126, 247/198 and 166/105 stand on either side, their distances but 4 to 10^9 unlike.
        note(x, "1;1,1,1,13,3", 0);
        note(x, "1;5,1,8,3", 0);
        note(x, "1;1,1,2,1,1,2,3", 0);
        note(x, "1;4,24,2", 0);
        book("by the root of 2", x, 247, 198, 166, 105, 193, 165, 209, 126);
        Due.is("surd(0, 2, 1)", x.surd(0, 2, 1), 0);
        book("put in order anew", x, 247, 198, 166, 105, 193, 165, 209, 126);
    }

    @Says(in = "Promise 6", value = "`index`: 0 to 399")
    static void promise6_indexIsFrom0To399() {
        SurdFractions x = new SurdFractions();
        isConvergent(x, 0, 1, 1);
        isConvergent(x, 1, 3, 2);
        Due.is("convergent(399, 0)", x.convergent(399, 0), LIMIT);
        range("convergent(.., 0)", index -> x.convergent(index, 0), 0, 399);
        range("convergent(.., 1)", index -> x.convergent(index, 1), 0, 399);
    }

    @Says(in = "Promise 6", value = "`part`: 0: the upper part plus 9000000000000000; 1: the lower part")
    static void promise6_partIs0ForTheUpperAnd1ForTheLower() {
        SurdFractions x = new SurdFractions();
        Due.is("convergent(3, 0)", x.convergent(3, 0), 9000000000000017L);
        Due.is("convergent(3, 1)", x.convergent(3, 1), 12);
        range("convergent(3, ..)", part -> x.convergent(3, part), 0, 1);
    }

    @Says(in = "Promise 6", value = "Returns the number")
    static void promise6_returnsTheNumber() {
        Due.is("an upper part below 0", of(13, 3, -1).convergent(5, 0), 8999999999999396L);
        Due.is("an upper part of 0", of(0, 2, -99).convergent(1, 0), RAISED);
        isConvergent(of(99, 968, -1), 0, -131, 1);
        isConvergent(of(99, 968, 1), 0, 130, 1);
        isConvergent(of(-31, 962, 99), 1, 1, 6139);
        Due.is("a far lower part", of(0, 61, 1).convergent(30, 1), 2550564646598L);
    }

    @Says(in = "Promise 6", value = "INVALID_ARGUMENT if an argument is out of range")
    static void promise6_invalidIfAnArgumentIsOutOfRange() {
        SurdFractions x = new SurdFractions();
        outOfRange("convergent(.., 0)", index -> x.convergent(index, 0), -1, 400);
        outOfRange("convergent(0, ..)", part -> x.convergent(0, part), -1, 2);
        outOfRange("convergent(399, ..)", part -> x.convergent(399, part), -1, 2);
        outOfRange("convergent(400, ..)", part -> x.convergent(400, part), 0, 1);
    }

    private static void isLastConvergent(SurdFractions x, int index, long upper, long lower) {
        isConvergent(x, index, upper, lower);
        for (int part = 0; part < 2; part++) {
            Due.is("the next one, part " + part, x.convergent(index + 1, part), LIMIT);
        }
    }

    private static final String PROMISE_6_LIMIT = "LIMIT_REACHED if the upper or the lower part of this one, or of one "
            + "ahead of it, is above 9000000000000000 without its sign";

    @Says(in = "Promise 6", value = PROMISE_6_LIMIT)
    static void promise6_limitReachedIfTheUpperPartIsAboveTheLimit() {
        isLastConvergent(of(17, 998, 13), 31, 8999995506873838L, 2407845265828233L);
        // The next one is 9000006854609183/2158222902836449.
        isLastConvergent(of(81, 752, 26), 35, 5248645369872962L, 1258637557628639L);
    }

    @Says(in = "Promise 6", value = PROMISE_6_LIMIT)
    static void promise6_limitReachedIfTheLowerPartIsAboveTheLimit() {
        isLastConvergent(of(-15, 248, -99), 31, -68001261635017L, 8999977500011250L);
        // The next one is 3871290547452809/9000083378692435.
        isLastConvergent(of(-50, 55, -99), 25, 765727811451755L, 1780185202834736L);
    }

    @Says(in = "Promise 6", value = "is above 9000000000000000 without its sign")
    static void promise6_limitReachedIfTheUpperPartIsAboveTheLimitWithoutItsSign() {
        isLastConvergent(of(17, 998, -39), 26, -8999995506873838L, 7223535797484699L);
        // The next one is -9000006854609183/2158222902836449.
        isLastConvergent(of(81, 752, -26), 36, -5248645369872962L, 1258637557628639L);
    }

    @Says(in = "Promise 6", value = "or of one ahead of it")
    static void promise6_limitReachedIfAPartOfOneAheadIsAboveTheLimit() {
        SurdFractions x = of(81, 752, -26);
        for (int index = 37; index <= 399; index += index < 80 ? 1 : 11) {
            Due.is("convergent(" + index + ", 0)", x.convergent(index, 0), LIMIT);
            Due.is("convergent(" + index + ", 1)", x.convergent(index, 1), LIMIT);
        }
        Due.is("convergent(399, 1)", x.convergent(399, 1), LIMIT);
    }

    @Says(in = "Promise 7", value = "`index`: 2 to 399: the k, between the convergents k - 2 and k")
    static void promise7_indexIsFrom2To399() {
        SurdFractions x = new SurdFractions();
        isBetween(x, 2, 1, 4, 3);
        Due.is("between(399, 1, 0)", x.between(399, 1, 0), LIMIT);
        range("between(.., 1, 0)", index -> x.between(index, 1, 0), 2, 399);
        range("between(.., 1, 1)", index -> x.between(index, 1, 1), 2, 399);
        Due.is("between(0, 1, 0)", x.between(0, 1, 0), INVALID);
        Due.is("between(0, 1, 1)", x.between(0, 1, 1), INVALID);
        // The term 1 is 70: by would be below it.
        Due.is("a great term 1", of(0, 2, 99).between(1, 1, 0), INVALID);
        Due.is("a great term 0", of(99, 2, 1).between(0, 1, 0), INVALID);
    }

    @Says(in = "Promise 7", value = "`by`: 1 or more: by what the term k is replaced")
    static void promise7_byIs1OrMore() {
        SurdFractions x = of(0, 61, 1);
        isBetween(x, 2, 1, 15, 2);
        for (int by : new int[] {0, -1, -4, LEAST_INT}) {
            Due.is("between(2, " + by + ", 0)", x.between(2, by, 0), INVALID);
            Due.is("between(2, " + by + ", 1)", x.between(2, by, 1), INVALID);
        }
    }

    @Says(in = "Promise 7", value = "`part`: 0: the upper part plus 9000000000000000; 1: the lower part")
    static void promise7_partIs0ForTheUpperAnd1ForTheLower() {
        SurdFractions x = new SurdFractions();
        Due.is("between(3, 1, 0)", x.between(3, 1, 0), 9000000000000010L);
        Due.is("between(3, 1, 1)", x.between(3, 1, 1), 7);
        range("between(3, 1, ..)", part -> x.between(3, 1, part), 0, 1);
    }

    @Says(in = "Promise 7", value = "Returns the number")
    static void promise7_returnsTheNumber() {
        Due.is("an upper part below 0", of(0, 2, -1).between(3, 1, 0), 8999999999999996L);
        Due.is("the root of 997 / 97", of(0, 997, 97).between(2, 1, 1), 4);
        isBetween(of(0, 2, 99), 2, 279, 279, 19531);
        isBetween(of(0, 61, 1), 11, 13, 410413, 52548);
    }

    private static final String PROMISE_7_INVALID =
            "INVALID_ARGUMENT if an argument is out of range, or by is not below the term";

    @Says(in = "Promise 7", value = PROMISE_7_INVALID)
    static void promise7_invalidIfAnArgumentIsOutOfRange() {
        SurdFractions x = new SurdFractions();
        outOfRange("between(.., 1, 0)", index -> x.between(index, 1, 0), 1, 400);
        outOfRange("between(2, .., 0)", by -> x.between(2, by, 0), 0, -1);
        outOfRange("between(2, 1, ..)", part -> x.between(2, 1, part), -1, 2);
        outOfRange("between(399, 1, ..)", part -> x.between(399, 1, part), -1, 2);
    }

    @Says(in = "Promise 7", value = "or by is not below the term")
    static void promise7_invalidIfByIsNotBelowTheTerm() {
        SurdFractions x = of(0, 61, 1);
        isBetween(x, 2, 3, 31, 4);
        Due.is("by the term", x.between(2, 4, 1), INVALID);
        Due.is("by one more", x.between(2, 5, 1), INVALID);
        Due.is("by the greatest", x.between(2, GREATEST_INT, 0), INVALID);
        Due.is("a term of 1", x.between(4, 1, 0), INVALID);
        SurdFractions great = of(-98, 999, -99);
        Due.is("below the greatest term", great.between(123, 6257, 0), LIMIT);
        Due.is("by the greatest term", great.between(123, 6258, 0), INVALID);
    }

    @Says(in = "Promise 7", value = "LIMIT_REACHED just if convergent(index, part) has it")
    static void promise7_limitReachedJustIfTheConvergentHasIt() {
        // The convergent 31 is the last one, and its term 1.
        SurdFractions x = of(17, 998, 13);
        isBetween(x, 30, 1, 3004868522245884L, 803918006425673L);
        Due.is("between(31, 1, 0)", x.between(31, 1, 0), INVALID);
        Due.is("between(32, 1, 0)", x.between(32, 1, 0), LIMIT);
        Due.is("between(32, 1, 1)", x.between(32, 1, 1), LIMIT);
        // Here it is 8434586304032980/5964153172084899 itself, but the convergent's upper part is above.
        SurdFractions rootOf2 = new SurdFractions();
        Due.is("convergent(42, 1)", rootOf2.convergent(42, 1), LIMIT);
        Due.is("between(42, 1, 0)", rootOf2.between(42, 1, 0), LIMIT);
        Due.is("between(42, 1, 1)", rootOf2.between(42, 1, 1), LIMIT);
        isBetween(rootOf2, 41, 1, 3493720040136818L, 2470433131948081L);
    }

    @Says(in = "Promise 8", value = "`bound`: 1 to 200: the greatest lower part")
    static void promise8_boundIsFrom1To200() {
        isNearest(new SurdFractions(), 1, 1, 1);
        isNearest(new SurdFractions(), 2, 3, 2);
        isNearest(of(0, 39, 1), 151, 943, 151);
        isNearest(of(0, 39, 1), 150, 306, 49);
        isNearest(of(0, 39, 1), 199, 943, 151);
        isNearest(of(0, 39, 1), 200, 1249, 200);
        SurdFractions x = new SurdFractions();
        range("nearest(.., 0)", bound -> x.nearest(bound, 0), 1, 200);
        range("nearest(.., 1)", bound -> x.nearest(bound, 1), 1, 200);
    }

    @Says(in = "Promise 8", value = "`part`: 0: the upper part plus 1000000; 1: the lower part")
    static void promise8_partIs0ForTheUpperAnd1ForTheLower() {
        SurdFractions x = new SurdFractions();
        Due.is("nearest(5, 0)", x.nearest(5, 0), 1000007);
        Due.is("nearest(5, 1)", x.nearest(5, 1), 5);
        range("nearest(5, ..)", part -> x.nearest(5, part), 0, 1);
    }

    @Says(in = "Promise 8", value = "Returns the number")
    static void promise8_returnsTheNumber() {
        isNearest(of(-99, 999, 99), 7, -2, 3);
        isNearest(of(0, 2, -99), 35, 0, 1);
        isNearest(of(0, 2, -99), 36, -1, 36);
        isNearest(of(99, 968, -1), 200, -9238, 71);
        isNearest(of(99, 968, 1), 200, 9238, 71);
        // The nearest whole number above, and below.
        isNearest(of(0, 3, 1), 1, 2, 1);
        isNearest(of(0, 3, -1), 1, -2, 1);
    }

    @Says(in = "Promise 8", value = "INVALID_ARGUMENT if an argument is out of range")
    static void promise8_invalidIfAnArgumentIsOutOfRange() {
        SurdFractions x = new SurdFractions();
        outOfRange("nearest(.., 0)", bound -> x.nearest(bound, 0), 0, 201);
        outOfRange("nearest(.., 1)", bound -> x.nearest(bound, 1), -1, 1000);
        outOfRange("nearest(1, ..)", part -> x.nearest(1, part), -1, 2);
        outOfRange("nearest(201, ..)", part -> x.nearest(201, part), 0, 1);
    }

    @Says(in = "Promise 9", value = "`bound`: 1 to 200: the greatest lower part")
    static void promise9_boundIsFrom1To200() {
        isBeside(new SurdFractions(), 1, 0, 1, 1);
        isBeside(new SurdFractions(), 1, 1, 2, 1);
        isBeside(new SurdFractions(), 2, 1, 3, 2);
        isBeside(of(0, 83, 2), 199, 0, 870, 191);
        isBeside(of(0, 83, 2), 200, 0, 911, 200);
        isBeside(of(0, 39, 1), 199, 1, 943, 151);
        isBeside(of(0, 39, 1), 200, 1, 1249, 200);
        SurdFractions x = new SurdFractions();
        range("beside(.., 0, 0)", bound -> x.beside(bound, 0, 0), 1, 200);
        range("beside(.., 1, 1)", bound -> x.beside(bound, 1, 1), 1, 200);
    }

    @Says(in = "Promise 9", value = "`above`: 0: below; 1: above")
    static void promise9_aboveIs0ForBelowAnd1ForAbove() {
        SurdFractions x = new SurdFractions();
        isBeside(x, 5, 0, 7, 5);
        isBeside(x, 5, 1, 3, 2);
        range("beside(5, .., 0)", above -> x.beside(5, above, 0), 0, 1);
        range("beside(5, .., 1)", above -> x.beside(5, above, 1), 0, 1);
        SurdFractions less = of(0, 2, -1);
        isBeside(less, 5, 0, -3, 2);
        isBeside(less, 5, 1, -7, 5);
    }

    @Says(in = "Promise 9", value = "`part`: 0: the upper part plus 1000000; 1: the lower part")
    static void promise9_partIs0ForTheUpperAnd1ForTheLower() {
        SurdFractions x = new SurdFractions();
        Due.is("beside(5, 0, 0)", x.beside(5, 0, 0), 1000007);
        Due.is("beside(5, 0, 1)", x.beside(5, 0, 1), 5);
        range("beside(5, 0, ..)", part -> x.beside(5, 0, part), 0, 1);
        range("beside(5, 1, ..)", part -> x.beside(5, 1, part), 0, 1);
    }

    @Says(in = "Promise 9", value = "Returns the number")
    static void promise9_returnsTheNumber() {
        isBeside(of(5, 7, -3), 9, 0, -23, 9);
        isBeside(of(5, 7, -3), 9, 1, -5, 2);
        isBeside(of(99, 968, -1), 200, 0, -17305, 133);
        isBeside(of(99, 968, -1), 200, 1, -9238, 71);
        isBeside(of(0, 2, 99), 69, 0, 0, 1);
        isBeside(of(0, 2, -99), 69, 1, 0, 1);
    }

    @Says(in = "Promise 9", value = "INVALID_ARGUMENT if an argument is out of range")
    static void promise9_invalidIfAnArgumentIsOutOfRange() {
        SurdFractions x = new SurdFractions();
        for (int above = 0; above < 2; above++) {
            int side = above;
            outOfRange("beside(.., " + side + ", 0)", bound -> x.beside(bound, side, 0), 0, 201);
            outOfRange("beside(1, " + side + ", ..)", part -> x.beside(1, side, part), -1, 2);
        }
        outOfRange("beside(1, .., 0)", above -> x.beside(1, above, 0), -1, 2);
        outOfRange("beside(.., 2, 2)", bound -> x.beside(bound, 2, 2), 1, 200);
    }

    @Says(in = "Promise 10", value = "(1 is always one of them)")
    static void promise10_oneIsAlwaysOneOfThem() {
        int[][] surds = {{0, 2, 1}, {0, 3, 1}, {0, 2, 99}, {0, 2, -99}, {99, 968, -1}, {-31, 962, 99}, {1, 5, 2}};
        for (int[] surd : surds) {
            Due.is("records(1)", of(surd[0], surd[1], surd[2]).records(1), 1);
        }
        Due.is("1 alone", of(0, 2, 99).records(35), 1);
    }

    @Says(in = "Promise 10", value =
            "with which a fraction in lowest terms is nearer than all fractions with lesser lower parts")
    static void promise10_aFractionIsNearerThanAllWithLesserLowerParts() {
        // 1, 2, 3, 5 and 12
        int[] dueOfRootOf2 = {1, 2, 3, 3, 4, 4, 4, 4, 4, 4, 4, 5};
        for (int i = 0; i < dueOfRootOf2.length; i++) {
            Due.is("root of 2: records(" + (i + 1) + ")", of(0, 2, 1).records(i + 1), dueOfRootOf2[i]);
            Due.is("less the root of 2: records(" + (i + 1) + ")", of(0, 2, -1).records(i + 1), dueOfRootOf2[i]);
        }
        // 1, 36, 37 and so on up to 70
        int[] bounds = {35, 36, 37, 69, 70, 200};
        int[] due = {1, 2, 3, 35, 36, 36};
        for (int i = 0; i < bounds.length; i++) {
            Due.is("root of 2 / 99: records(" + bounds[i] + ")", of(0, 2, 99).records(bounds[i]), due[i]);
        }
    }

    @Says(in = "Promise 10", value = "`bound`: 1 to 200")
    static void promise10_boundIsFrom1To200() {
        Due.is("records(1)", of(0, 39, 1).records(1), 1);
        Due.is("records(199)", of(0, 39, 1).records(199), 11);
        Due.is("records(200)", of(0, 39, 1).records(200), 12);
        range("records", new SurdFractions()::records, 1, 200);
    }

    @Says(in = "Promise 10", value = "Returns how many")
    static void promise10_returnsHowMany() {
        Due.is("root of 997 / 97", of(0, 997, 97).records(200), 11);
        Due.is("root of 83 / 2, up to 190", of(0, 83, 2).records(190), 8);
        Due.is("root of 83 / 2, up to 191", of(0, 83, 2).records(191), 9);
        Due.is("root of 3, up to 15", of(0, 3, 1).records(15), 7);
    }

    @Says(in = "Promise 10", value = "INVALID_ARGUMENT if bound is out of range")
    static void promise10_invalidIfBoundIsOutOfRange() {
        outOfRange("records", new SurdFractions()::records, 0, 201);
        outOfRange("records", of(5, 7, -3)::records, -1, 400);
    }
}
