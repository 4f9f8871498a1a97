/** What the document says of the book and of undo (promises 14 to 19). */
final class BookSentences extends Calls {
    private static final String NOT_POSSIBLE_TO_NOTE = "NOT_POSSIBLE if the text has a fault, the fraction is out of the "
            + "ranges of the book, or is in it";

    private BookSentences() {
    }

    /** Whole numbers from 1 on, by the root of 2 in the order 1, 2, 3 and so on. */
    private static SurdFractions ofWholeNumbers(int count) {
        SurdFractions x = new SurdFractions();
        for (int i = 1; i <= count; i++) {
            note(x, String.valueOf(i), i - 1);
        }
        return x;
    }

    /** 7/5, 4/3, 1 and -5/3. */
    private static SurdFractions ofUnlikeFractions() {
        SurdFractions x = new SurdFractions();
        note(x, "1;3", 0);
        note(x, "1", 1);
        note(x, "-2;3", 2);
        note(x, "1;2,2", 0);
        book("unlike", x, 7, 5, 4, 3, 1, 1, -5, 3);
        return x;
    }

    @Says(in = "The book", value = "There is a book of at most 8 fractions")
    static void theBook_hasAtMost8Fractions() {
        SurdFractions x = ofWholeNumbers(8);
        book("full", x, 1, 1, 2, 1, 3, 1, 4, 1, 5, 1, 6, 1, 7, 1, 8, 1);
        note(x, "9", LIMIT);
        // Nor does a nearer one push out another.
        note(x, "1;2", LIMIT);
        book("still full", x, 1, 1, 2, 1, 3, 1, 4, 1, 5, 1, 6, 1, 7, 1, 8, 1);
    }

    @Says(in = "The book", value = "each once")
    static void theBook_hasEachFractionOnce() {
        SurdFractions x = new SurdFractions();
        note(x, "1;2", 0);
        note(x, "1;2", NOT_POSSIBLE);
        note(x, "1;1,1", NOT_POSSIBLE);
        note(x, "0", 1);
        note(x, "-0", NOT_POSSIBLE);
        note(x, "-1;1", NOT_POSSIBLE);
        note(x, "-2;2", 2);
        note(x, "-2;1,1", NOT_POSSIBLE);
        book("each once", x, 3, 2, 0, 1, -3, 2);
    }

    @Says(in = "The book", value = "with lower parts up to 200")
    static void theBook_hasLowerPartsUpTo200() {
        SurdFractions x = new SurdFractions();
        note(x, "0;200", 0);
        note(x, "0;201", NOT_POSSIBLE);
        note(x, "-1;1,199", 1);
        note(x, "-1;1,200", NOT_POSSIBLE);
        book("noted", x, 1, 200, -1, 200);
    }

    @Says(in = "The book", value = "and upper parts from -30000 to 30000")
    static void theBook_hasUpperPartsFromMinus30000To30000() {
        SurdFractions x = new SurdFractions();
        // 30000/31, 30001/31, -30000/31 and -30001/31; then 30000/101 and 30001/101
        note(x, "967;1,2,1,7", 0);
        note(x, "967;1,3,2,3", NOT_POSSIBLE);
        note(x, "-968;3,1,7", 1);
        note(x, "-968;4,2,3", NOT_POSSIBLE);
        note(x, "297;33,1,2", 0);
        note(x, "297;25,4", NOT_POSSIBLE);
        book("noted", x, 30000, 101, 30000, 31, -30000, 31);
    }

    @Says(in = "The book", value = "They are in order by how near they are to s as it is now, the nearest first.")
    static void theBook_isInOrderByHowNearTheFractionsAreToTheSurdAsItIsNow() {
        SurdFractions x = ofWholeNumbers(3);
        note(x, "1;2", 0);
        note(x, "-1", 4);
        book("by the root of 2", x, 3, 2, 1, 1, 2, 1, 3, 1, -1, 1);
        Due.is("surd(0, 7, 1)", x.surd(0, 7, 1), 0);
        book("by the root of 7", x, 3, 1, 2, 1, 3, 2, 1, 1, -1, 1);
        Due.is("surd(0, 2, -1)", x.surd(0, 2, -1), 0);
        book("by less the root of 2", x, -1, 1, 1, 1, 3, 2, 2, 1, 3, 1);
        Due.is("undo()", x.undo(), 3);
        book("by the root of 7 again", x, 3, 1, 2, 1, 3, 2, 1, 1, -1, 1);
    }

    @Says(in = "Promise 14", value = "Notes the fraction of the text in the book.")
    static void promise14_notesTheFractionOfTheText() {
        SurdFractions x = new SurdFractions();
        note(x, "-3;1,2", 0);
        book("noted", x, -7, 3);
        count("noted", x, 1, 0, 1, 6);
    }

    @Says(in = "Promise 14", value = "Returns its place in the order then")
    static void promise14_returnsItsPlaceInTheOrderThen() {
        SurdFractions x = new SurdFractions();
        note(x, "2", 0);
        note(x, "1", 0);
        note(x, "3", 2);
        note(x, "1;2", 0);
        note(x, "1;2,2", 0);
        note(x, "1;3", 1);
        note(x, "-9", 6);
        note(x, "1;1,4", 3);
        book("in order", x, 7, 5, 4, 3, 3, 2, 9, 5, 1, 1, 2, 1, 3, 1, -9, 1);
    }

    @Says(in = "Promise 14", value = NOT_POSSIBLE_TO_NOTE)
    static void promise14_notPossibleIfTheTextHasAFault() {
        SurdFractions x = new SurdFractions();
        for (String text : new String[] {"", "-", "1;", "1;2,", "01", "1;0", "1;2,0", "1x", "1234", "1,2"}) {
            note(x, text, NOT_POSSIBLE);
        }
        book("none noted", x);
    }

    @Says(in = "Promise 14", value = "the fraction is out of the ranges of the book")
    static void promise14_notPossibleIfTheFractionIsOutOfTheRanges() {
        SurdFractions x = new SurdFractions();
        // The lower part by 1, the upper part by 1 on either side, both, and by far.
        String[] texts = {
            "1;201", "967;1,3,2,3", "-968;4,2,3", "999;201", "-999;201", "999;999,999,999,999,999,999,999,999,999",
            "-1;999,999,999,999,999,999,999,999,999",
        };
        for (String text : texts) {
            note(x, text, NOT_POSSIBLE);
        }
        book("none noted", x);
    }

    @Says(in = "Promise 14", value = "or is in it")
    static void promise14_notPossibleIfTheFractionIsInTheBook() {
        SurdFractions x = ofWholeNumbers(3);
        Due.is("note() once more", x.note(), NOT_POSSIBLE);
        note(x, "1", NOT_POSSIBLE);
        note(x, "1;1", NOT_POSSIBLE);
        note(x, "2;1", NOT_POSSIBLE);
        // The same upper part, or the same lower part, is no hindrance.
        note(x, "0;1,1,1", 2);
        note(x, "1;1,1", 0);
        book("noted", x, 3, 2, 1, 1, 2, 1, 2, 3, 3, 1);
        Due.is("strike(4)", x.strike(4), 4);
        note(x, "3", 4);
    }

    @Says(in = "Promise 14", value = "LIMIT_REACHED if there are 8")
    static void promise14_limitReachedIfThereAre8() {
        SurdFractions x = ofWholeNumbers(7);
        note(x, "1;2", 0);
        note(x, "9", LIMIT);
        note(x, "1;3", LIMIT);
        Due.is("strike(7)", x.strike(7), 7);
        note(x, "1;3", 0);
        note(x, "9", LIMIT);
    }

    @Says(in = "Promise 15", value = "`place`: 0 for the nearest one, and so on")
    static void promise15_placeIs0ForTheNearest() {
        SurdFractions x = ofWholeNumbers(4);
        Due.is("strike(0)", x.strike(0), 3);
        book("the nearest struck", x, 2, 1, 3, 1, 4, 1);
        Due.is("strike(1)", x.strike(1), 2);
        book("the middle struck", x, 2, 1, 4, 1);
        Due.is("strike(1)", x.strike(1), 1);
        book("the last struck", x, 2, 1);
        Due.is("strike(-1)", x.strike(-1), INVALID);
        SurdFractions unlike = ofUnlikeFractions();
        Due.is("strike(1)", unlike.strike(1), 3);
        book("the second struck", unlike, 7, 5, 1, 1, -5, 3);
        SurdFractions full = ofWholeNumbers(8);
        Due.is("strike(7)", full.strike(7), 7);
        book("the eighth struck", full, 1, 1, 2, 1, 3, 1, 4, 1, 5, 1, 6, 1, 7, 1);
    }

    @Says(in = "Promise 15", value = "Returns how many there are then")
    static void promise15_returnsHowManyThereAreThen() {
        SurdFractions x = ofWholeNumbers(8);
        for (int left = 7; left >= 0; left--) {
            Due.is("strike(0)", x.strike(0), left);
            Due.is("count(0)", x.count(0), left);
        }
    }

    @Says(in = "Promise 15", value = "INVALID_ARGUMENT if place is negative")
    static void promise15_invalidIfPlaceIsNegative() {
        for (SurdFractions x : new SurdFractions[] {new SurdFractions(), ofWholeNumbers(3), ofWholeNumbers(8)}) {
            Due.is("strike(-1)", x.strike(-1), INVALID);
            Due.is("strike(-8)", x.strike(-8), INVALID);
            Due.is("strike(least)", x.strike(LEAST_INT), INVALID);
        }
    }

    @Says(in = "Promise 15", value = "NOT_POSSIBLE if there are not so many")
    static void promise15_notPossibleIfThereAreNotSoMany() {
        for (int count : new int[] {0, 1, 3, 8}) {
            SurdFractions x = ofWholeNumbers(count);
            Due.is("strike(" + count + ")", x.strike(count), NOT_POSSIBLE);
            Due.is("strike(" + (count + 1) + ")", x.strike(count + 1), NOT_POSSIBLE);
            Due.is("strike(greatest)", x.strike(GREATEST_INT), NOT_POSSIBLE);
            Due.is("count(0)", x.count(0), count);
        }
        Due.is("the last one of 3", ofWholeNumbers(3).strike(2), 2);
    }

    @Says(in = "Promise 16", value = "Strikes all fractions out of the book.")
    static void promise16_strikesAll() {
        for (int count : new int[] {0, 1, 8}) {
            SurdFractions x = ofWholeNumbers(count);
            x.strikeAll();
            book("struck", x);
            Due.is("noteOf(0, 0)", x.noteOf(0, 0), NOT_FOUND);
            Due.is("strike(0)", x.strike(0), NOT_POSSIBLE);
            note(x, "1;2", 0);
            book("noted anew", x, 3, 2);
        }
    }

    @Says(in = "Promise 16", value = "Returns how many there were")
    static void promise16_returnsHowManyThereWere() {
        for (int count : new int[] {0, 1, 7, 8}) {
            SurdFractions x = ofWholeNumbers(count);
            Due.is("strikeAll() of " + count, x.strikeAll(), count);
            Due.is("strikeAll() of none", x.strikeAll(), 0);
        }
    }

    @Says(in = "Promise 17", value = "`place`: 0 for the nearest one, and so on")
    static void promise17_placeIs0ForTheNearest() {
        SurdFractions x = ofWholeNumbers(8);
        for (int place = 0; place < 8; place++) {
            Due.is("noteOf(" + place + ", 0)", x.noteOf(place, 0), 1000001 + place);
        }
        Due.is("noteOf(-1, 0)", x.noteOf(-1, 0), INVALID);
        Due.is("noteOf(8, 0)", x.noteOf(8, 0), NOT_FOUND);
    }

    @Says(in = "Promise 17", value =
            "`what`: 0: the upper part plus 1000000; 1: the lower part; 2: 1 if it is above s, otherwise 0; 3: "
            + "1 if it is a convergent of s, otherwise 0")
    static void promise17_whatIsFrom0To3() {
        SurdFractions x = new SurdFractions();
        note(x, "1;2", 0);
        int[] due = {1000003, 2, 1, 1};
        for (int what = 0; what < 4; what++) {
            Due.is("noteOf(0, " + what + ")", x.noteOf(0, what), due[what]);
        }
        range("noteOf(0, ..)", what -> x.noteOf(0, what), 0, 3);
    }

    @Says(in = "Promise 17", value = "2: 1 if it is above s, otherwise 0")
    static void promise17_what2IsWhetherItIsAboveTheSurd() {
        SurdFractions x = new SurdFractions();
        // 239/169 is below by 0.00001.., 99/70 above by 0.00007..
        note(x, "1;2,2,2,2,2", 0);
        note(x, "1;2,2,2,2,2,2", 0);
        note(x, "-3", 2);
        int[][] surds = {{0, 2, 1}, {0, 2, -1}, {0, 10, -1}, {99, 2, 1}};
        int[][] due = {{0, 1, 0}, {0, 1, 1}, {1, 1, 1}, {0, 0, 0}};
        for (int i = 0; i < surds.length; i++) {
            Due.is("surd", x.surd(surds[i][0], surds[i][1], surds[i][2]), 0);
            for (int place = 0; place < 3; place++) {
                Due.is("noteOf(" + place + ", 2) by surd " + i, x.noteOf(place, 2), due[i][place]);
            }
        }
    }

    @Says(in = "Promise 17", value = "3: 1 if it is a convergent of s, otherwise 0")
    static void promise17_what3IsWhetherItIsAConvergent() {
        SurdFractions x = of(0, 3, -1);
        // The convergents are -2, -5/3, -7/4, -19/11; -12/7 stands between.
        String[] texts = {"-2;4", "-2;3", "-2;3,2", "-2;2", "-2", "-1", "2"};
        int[] places = {0, 1, 0, 3, 4, 5, 6};
        for (int i = 0; i < texts.length; i++) {
            note(x, texts[i], places[i]);
        }
        book("noted", x, -12, 7, -7, 4, -5, 3, -3, 2, -2, 1, -1, 1, 2, 1);
        int[] due = {0, 1, 1, 0, 1, 0, 0};
        for (int place = 0; place < due.length; place++) {
            Due.is("noteOf(" + place + ", 3)", x.noteOf(place, 3), due[place]);
        }
        // Those of the root of 3 are 1, 2, 5/3.
        Due.is("surd(0, 3, 1)", x.surd(0, 3, 1), 0);
        note(x, "1", 1);
        Due.is("2 is one", x.noteOf(0, 3), 1);
        Due.is("1 is one", x.noteOf(1, 3), 1);
        Due.is("-1 is none", x.noteOf(2, 3), 0);
    }

    @Says(in = "Promise 17", value = "Returns the number")
    static void promise17_returnsTheNumber() {
        SurdFractions x = new SurdFractions();
        note(x, "-968;3,1,7", 0);
        note(x, "967;1,2,1,7", 0);
        note(x, "-0", 0);
        note(x, "0;200", 0);
        int[] uppers = {1000001, 1000000, 1030000, 970000};
        int[] lowers = {200, 1, 31, 31};
        for (int place = 0; place < 4; place++) {
            Due.is("noteOf(" + place + ", 0)", x.noteOf(place, 0), uppers[place]);
            Due.is("noteOf(" + place + ", 1)", x.noteOf(place, 1), lowers[place]);
        }
    }

    @Says(in = "Promise 17", value = "INVALID_ARGUMENT if place is negative or what is out of range")
    static void promise17_invalidIfPlaceIsNegativeOrWhatIsOutOfRange() {
        for (SurdFractions x : new SurdFractions[] {new SurdFractions(), ofWholeNumbers(2), ofWholeNumbers(8)}) {
            for (int what = 0; what < 4; what++) {
                Due.is("noteOf(-1, " + what + ")", x.noteOf(-1, what), INVALID);
                Due.is("noteOf(least, " + what + ")", x.noteOf(LEAST_INT, what), INVALID);
            }
            outOfRange("noteOf(0, ..)", what -> x.noteOf(0, what), -1, 4);
            outOfRange("noteOf(8, ..), which is not found", what -> x.noteOf(8, what), -1, 4);
            outOfRange("noteOf(-1, ..)", what -> x.noteOf(-1, what), -1, 4);
        }
    }

    @Says(in = "Promise 17", value = "NOT_FOUND if there are not so many")
    static void promise17_notFoundIfThereAreNotSoMany() {
        for (int count : new int[] {0, 1, 3, 8}) {
            SurdFractions x = ofWholeNumbers(count);
            for (int what = 0; what < 4; what++) {
                Due.is("noteOf(" + count + ", " + what + ")", x.noteOf(count, what), NOT_FOUND);
                Due.is("noteOf(greatest, " + what + ")", x.noteOf(GREATEST_INT, what), NOT_FOUND);
            }
        }
        Due.is("the last one of 3", ofWholeNumbers(3).noteOf(2, 0), 1000003);
    }

    @Says(in = "Promise 18", value =
            "`what`: 0: fractions in the book; 1: those of them that are above s; 2: states in the history; 3: "
            + "the length of the text")
    static void promise18_whatIsFrom0To3() {
        SurdFractions x = ofWholeNumbers(3);
        write(x, "12345");
        count("three noted", x, 3, 2, 3, 5);
        range("count", x::count, 0, 3);
    }

    @Says(in = "Promise 18", value = "0: fractions in the book")
    static void promise18_what0IsFractionsInTheBook() {
        for (int count = 0; count <= 8; count++) {
            Due.is("count(0)", ofWholeNumbers(count).count(0), count);
        }
    }

    @Says(in = "Promise 18", value = "1: those of them that are above s")
    static void promise18_what1IsThoseAboveTheSurd() {
        SurdFractions x = ofWholeNumbers(8);
        int[][] surds = {{0, 2, 1}, {0, 10, 1}, {0, 2, -1}, {99, 2, 1}, {0, 65, 1}, {0, 60, 1}};
        int[] due = {7, 5, 8, 0, 0, 1};
        for (int i = 0; i < surds.length; i++) {
            Due.is("surd", x.surd(surds[i][0], surds[i][1], surds[i][2]), 0);
            Due.is("count(1) by surd " + i, x.count(1), due[i]);
        }
        Due.is("of none", new SurdFractions().count(1), 0);
    }

    @Says(in = "Promise 18", value = "2: states in the history")
    static void promise18_what2IsStatesInTheHistory() {
        SurdFractions x = new SurdFractions();
        int[] due = {0, 1, 2, 3, 4, 4, 4};
        for (int changes = 0; changes < due.length; changes++) {
            Due.is("count(2) after " + changes, x.count(2), due[changes]);
            x.strikeAll();
        }
        for (int left = 3; left >= 0; left--) {
            x.undo();
            Due.is("count(2) with left", x.count(2), left);
        }
    }

    @Says(in = "Promise 18", value = "3: the length of the text")
    static void promise18_what3IsTheLengthOfTheText() {
        SurdFractions x = new SurdFractions();
        for (int length = 0; length <= 40; length++) {
            Due.is("count(3)", x.count(3), length);
            x.type(' ');
        }
        Due.is("count(3) beyond 40", x.count(3), 40);
    }

    @Says(in = "Promise 18", value = "Returns the number")
    static void promise18_returnsTheNumber() {
        count("new", new SurdFractions(), 0, 0, 0, 0);
        SurdFractions x = ofWholeNumbers(8);
        write(x, "0123456789012345678901234567890123456789");
        count("full", x, 8, 7, 4, 40);
    }

    @Says(in = "Promise 18", value = "INVALID_ARGUMENT if what is out of range")
    static void promise18_invalidIfWhatIsOutOfRange() {
        outOfRange("count", new SurdFractions()::count, -1, 4);
        outOfRange("count", ofWholeNumbers(8)::count, -4, 8);
    }

    @Says(in = "Promise 19", value = "Restores the latest state of the history, which is removed from it.")
    static void promise19_restoresTheLatestStateWhichIsRemoved() {
        SurdFractions x = new SurdFractions();
        note(x, "1", 0);
        note(x, "2", 1);
        Due.is("surd(0, 7, 1)", x.surd(0, 7, 1), 0);
        Due.is("strike(0)", x.strike(0), 1);
        Due.is("undo() of strike", x.undo(), 3);
        book("before strike", x, 2, 1, 1, 1);
        isSurd("before strike", x, 0, 7, 1);
        Due.is("undo() of surd", x.undo(), 2);
        isSurd("before surd", x, 0, 2, 1);
        terms(x, 1, 2, 2, 2);
        again(x, 1, 1, 2, 1, 1);
        isConvergent(x, 3, 17, 12);
        isNearest(x, 5, 7, 5);
        book("before surd", x, 1, 1, 2, 1);
        Due.is("undo() of note", x.undo(), 1);
        book("before note", x, 1, 1);
        Due.is("undo() of the first note", x.undo(), 0);
        book("before the first note", x);
        SurdFractions unlike = ofUnlikeFractions();
        Due.is("strikeAll()", unlike.strikeAll(), 4);
        Due.is("undo() of strikeAll", unlike.undo(), 3);
        book("before strikeAll", unlike, 7, 5, 4, 3, 1, 1, -5, 3);
        Due.is("undo() of the last note", unlike.undo(), 2);
        book("before the last note", unlike, 4, 3, 1, 1, -5, 3);
    }

    @Says(in = "Promise 19", value = "Returns the number of states that are left in the history")
    static void promise19_returnsTheNumberOfStatesThatAreLeft() {
        SurdFractions x = ofWholeNumbers(6);
        for (int left = 3; left >= 0; left--) {
            Due.is("undo()", x.undo(), left);
        }
        book("four notes undone", x, 1, 1, 2, 1);
        Due.is("strikeAll()", x.strikeAll(), 2);
        Due.is("undo()", x.undo(), 0);
    }

    @Says(in = "Promise 19", value = "NOT_POSSIBLE if it is empty")
    static void promise19_notPossibleIfTheHistoryIsEmpty() {
        SurdFractions x = new SurdFractions();
        Due.is("undo() of a new object", x.undo(), NOT_POSSIBLE);
        Due.is("strikeAll()", x.strikeAll(), 0);
        Due.is("undo()", x.undo(), 0);
        Due.is("undo() once more", x.undo(), NOT_POSSIBLE);
        for (int change = 0; change < 5; change++) {
            x.strikeAll();
        }
        for (int left = 3; left >= 0; left--) {
            Due.is("undo()", x.undo(), left);
        }
        Due.is("undo() of the dropped one", x.undo(), NOT_POSSIBLE);
        Due.is("undo() still", x.undo(), NOT_POSSIBLE);
    }
}
