/** What the document says of texts (promises 20 to 23). */
final class TextSentences extends Calls {
    private static final String REASON_1 = "reason 1: a character that is not allowed there (its place; "
            + "the length of the text if it ends too early, as the empty text does)";
    private static final String REASON_2 = "reason 2: a number behind \";\" that is 0 (its place, whatever stands behind the 0)";
    private static final String TOLD_LIMIT = "LIMIT_REACHED for 0 and 1 if the upper or the lower part of this fraction, "
            + "or of one of the first terms of the text alone, is above 9000000000000000 without its sign, "
            + "for 4 if the upper part is above 30000 without its sign or the lower part above 200";
    private static final String FORTY_ALLOWED = "1;1,1,1,1,1,1,1,1,1,1,1,1,1,1,1,1,1,1,11";

    private TextSentences() {
    }

    private static void hasNoFault(String... texts) {
        SurdFractions x = new SurdFractions();
        for (String text : texts) {
            faultOf(x, text, NOT_FOUND, NOT_FOUND);
        }
    }

    private static void notAllowedAt(int place, String... texts) {
        SurdFractions x = new SurdFractions();
        for (String text : texts) {
            faultOf(x, text, place, 1);
        }
    }

    @Says(in = "Texts", value = "There is a text of at most 40 characters, initially empty.")
    static void texts_aTextHasAtMost40CharactersAndIsInitiallyEmpty() {
        SurdFractions x = new SurdFractions();
        Due.is("count(3)", x.count(3), 0);
        Due.is("fault(0)", x.fault(0), 0);
        Due.is("fault(1)", x.fault(1), 1);
        Due.is("clearText()", x.clearText(), 0);
        faultOf(x, FORTY_ALLOWED, NOT_FOUND, NOT_FOUND);
        Due.is("type('1')", x.type('1'), LIMIT);
        Due.is("count(3)", x.count(3), 40);
    }

    @Says(in = "Texts", value = "perhaps with \"-\" ahead of it (also of 0)")
    static void texts_aMinusMayStandAhead() {
        hasNoFault("-7", "-0", "-0;1", "-12;3,4");
        isTold(new SurdFractions(), "-0", 0, 1, 1, 0, 0);
        isTold(new SurdFractions(), "-0;4", 1, 4, 2, 0, 0);
        isTold(new SurdFractions(), "-7", -7, 1, 1, 0, 0);
        notAllowedAt(1, "--1", "-", "-;1", "-x");
        // But not ahead of the numbers behind the first.
        notAllowedAt(2, "1;-2");
        notAllowedAt(4, "1;2,-3");
    }

    @Says(in = "Texts", value = "and perhaps \";\" and one or more numbers with \",\" between two")
    static void texts_oneOrMoreNumbersMayStandBehindASemicolon() {
        hasNoFault("1", "1;2", "1;2,3", "1;2,3,4", FORTY_ALLOWED);
        notAllowedAt(1, "1,2", "1 ;2", "1.2");
        notAllowedAt(2, "1;", "1;,2", "1;;2");
        notAllowedAt(3, "1;2;3", "1;2 3", "1;2-3");
        notAllowedAt(4, "1;2,", "1;2,,3", "1;2,;3");
    }

    @Says(in = "Texts", value = "each number is 1 to 3 digits")
    static void texts_eachNumberIs1To3Digits() {
        hasNoFault("7", "10", "999", "-999", "1;9", "1;10", "1;999", "1;2,999");
        notAllowedAt(0, "", ";", "a");
        notAllowedAt(3, "1000", "9999", "12345");
        notAllowedAt(4, "-1000");
        notAllowedAt(5, "1;1000");
        notAllowedAt(7, "1;2,1000");
    }

    @Says(in = "Texts", value = "the first one not 0 unless it is the only digit")
    static void texts_theFirstDigitIsNot0UnlessItIsTheOnlyOne() {
        hasNoFault("0", "-0", "10", "100", "101", "0;1", "-0;10,100");
        notAllowedAt(1, "00", "01", "0123", "00;1");
        notAllowedAt(2, "-00", "-01", "-01;1");
    }

    @Says(in = "Texts", value = "the numbers behind \";\" are at least 1")
    static void texts_theNumbersBehindTheSemicolonAreAtLeast1() {
        hasNoFault("0;1", "1;1", "1;1,1", "-0;1,1,1", "1;10,100");
        SurdFractions x = new SurdFractions();
        faultOf(x, "1;0", 2, 2);
        faultOf(x, "1;1,0", 4, 2);
        faultOf(x, "1;1,1,0,1", 6, 2);
    }

    @Says(in = "Texts", value = "It tells a fraction: that of these terms, as a convergent.")
    static void texts_aTextTellsTheFractionOfItsTerms() {
        isTold(new SurdFractions(), "7;1,4", 39, 5);
        isTold(new SurdFractions(), "-3;1,2", -7, 3);
        // A last term of 1 is none that a surd's terms end with, but a fraction all the same.
        isTold(new SurdFractions(), "1;2,1", 4, 3);
        isTold(new SurdFractions(), "-1;1", 0, 1);
    }

    @Says(in = "Texts", value = "the first one from the left")
    static void texts_theFaultIsTheFirstOneFromTheLeft() {
        SurdFractions x = new SurdFractions();
        faultOf(x, "01;0", 1, 1);
        faultOf(x, "1;0,x", 2, 2);
        faultOf(x, "x;0", 0, 1);
        faultOf(x, "1;2,x,0", 4, 1);
        faultOf(x, "1;2,0,0", 4, 2);
        faultOf(x, "1;,0", 2, 1);
        faultOf(x, "1234;0,1234", 3, 1);
        faultOf(x, "1;1234,0", 5, 1);
    }

    @Says(in = "Texts", value = REASON_1)
    static void texts_reason1IsACharacterThatIsNotAllowedThere() {
        // What stands next to the digits, the signs and the ends of the characters that may be typed.
        for (char character : " /:<+.~aA!".toCharArray()) {
            notAllowedAt(0, character + "1");
            notAllowedAt(1, "1" + character, "-" + character);
            notAllowedAt(2, "1;" + character, "12" + character + "3");
            notAllowedAt(3, "1;2" + character, "999" + character);
        }
        notAllowedAt(39, "1;1,1,1,1,1,1,1,1,1,1,1,1,1,1,1,1,1,1,1x");
        notAllowedAt(0, ",1", ";1");
        notAllowedAt(1, "1-", "1,");
    }

    @Says(in = "Texts", value = "the length of the text if it ends too early, as the empty text does")
    static void texts_theFaultOfATextThatEndsTooEarlyIsAtItsLength() {
        notAllowedAt(0, "");
        notAllowedAt(1, "-");
        notAllowedAt(2, "1;");
        notAllowedAt(3, "-0;");
        notAllowedAt(4, "1;2,", "999;");
        notAllowedAt(8, "999;999,");
        // All 40 characters, the last of them a sign that a number is due behind.
        notAllowedAt(40, "11;1,1,1,1,1,1,1,1,1,1,1,1,1,1,1,1,1,11,");
    }

    @Says(in = "Texts", value = REASON_2)
    static void texts_reason2IsANumberBehindTheSemicolonThatIs0WhateverStandsBehind() {
        SurdFractions x = new SurdFractions();
        for (String text : new String[] {"1;0", "1;00", "1;05", "1;0x", "1;0,", "1;0,1", "1;0;1", "1;0-", "1;000"}) {
            faultOf(x, text, 2, 2);
        }
        for (String text : new String[] {"1;2,0", "1;2,01", "1;2,0,", "1;2,0 "}) {
            faultOf(x, text, 4, 2);
        }
        faultOf(x, "1;1,1,1,1,1,1,1,1,1,1,1,1,1,1,1,1,1,11,0", 39, 2);
        faultOf(x, "-0;0", 3, 2);
    }

    @Says(in = "Promise 20", value = "Appends a character to the text.")
    static void promise20_appendsACharacter() {
        SurdFractions x = new SurdFractions();
        x.type('1');
        Due.is("told(0) of 1", x.told(0), RAISED + 1);
        x.type(';');
        Due.is("fault(0) of 1;", x.fault(0), 2);
        x.type('2');
        Due.is("told(0) of 1;2", x.told(0), RAISED + 3);
        x.type('5');
        Due.is("told(0) of 1;25", x.told(0), RAISED + 26);
    }

    @Says(in = "Promise 20", value = "`character`: 32 to 126")
    static void promise20_characterIsFrom32To126() {
        SurdFractions x = new SurdFractions();
        Due.is("type(32)", x.type(32), 1);
        Due.is("type(126)", x.type(126), 2);
        range("type", x::type, 32, 126);
        SurdFractions all = new SurdFractions();
        for (int character = 32; character <= 126; character++) {
            all.clearText();
            Due.is("type(" + character + ")", all.type(character), 1);
        }
    }

    @Says(in = "Promise 20", value = "Returns the length of the text")
    static void promise20_returnsTheLengthOfTheText() {
        SurdFractions x = new SurdFractions();
        for (int length = 1; length <= 40; length++) {
            Due.is("type('1')", x.type('1'), length);
        }
        x.clearText();
        Due.is("type('1') after clearText()", x.type('1'), 1);
    }

    @Says(in = "Promise 20", value = "INVALID_ARGUMENT if character is out of range")
    static void promise20_invalidIfCharacterIsOutOfRange() {
        SurdFractions x = new SurdFractions();
        outOfRange("type", x::type, 31, 127);
        // 65536 + 49 is '1' as a char, and 256 + 49 as a byte.
        outOfRange("type", x::type, 65536 + 49, 256 + 49);
        outOfRange("type", x::type, 0, -1);
        Due.is("count(3)", x.count(3), 0);
        write(x, FORTY_ALLOWED);
        outOfRange("type beyond 40", x::type, 31, 127);
    }

    @Says(in = "Promise 20", value = "LIMIT_REACHED if it has 40 characters")
    static void promise20_limitReachedIfItHas40Characters() {
        SurdFractions x = new SurdFractions();
        write(x, FORTY_ALLOWED.substring(0, 39));
        Due.is("the 40th", x.type('1'), 40);
        for (char character : new char[] {'1', ',', ' ', '~'}) {
            Due.is("the 41st", x.type(character), LIMIT);
        }
        Due.is("count(3)", x.count(3), 40);
        Due.is("told(2)", x.told(2), 20);
        Due.is("clearText()", x.clearText(), 40);
        Due.is("the first", x.type('1'), 1);
    }

    @Says(in = "Promise 21", value = "Empties the text.")
    static void promise21_emptiesTheText() {
        SurdFractions x = new SurdFractions();
        for (String text : new String[] {"", "1;2", FORTY_ALLOWED}) {
            write(x, text);
            x.clearText();
            Due.is("count(3)", x.count(3), 0);
            Due.is("fault(0)", x.fault(0), 0);
            Due.is("fault(1)", x.fault(1), 1);
            Due.is("told(0)", x.told(0), NOT_POSSIBLE);
        }
        write(x, "7");
        Due.is("told(0)", x.told(0), RAISED + 7);
    }

    @Says(in = "Promise 21", value = "Returns the length it had")
    static void promise21_returnsTheLengthItHad() {
        SurdFractions x = new SurdFractions();
        for (String text : new String[] {"", "1", "1;2,x", FORTY_ALLOWED}) {
            write(x, text);
            Due.is("clearText() of " + text, x.clearText(), text.length());
            Due.is("clearText() once more", x.clearText(), 0);
        }
    }

    @Says(in = "Promise 22", value = "`what`: 0: its place; 1: its reason")
    static void promise22_whatIs0ForThePlaceAnd1ForTheReason() {
        SurdFractions x = new SurdFractions();
        write(x, "1;2,0");
        Due.is("fault(0)", x.fault(0), 4);
        Due.is("fault(1)", x.fault(1), 2);
        range("fault", x::fault, 0, 1);
    }

    @Says(in = "Promise 22", value = "Returns that")
    static void promise22_returnsThat() {
        SurdFractions x = new SurdFractions();
        faultOf(x, "", 0, 1);
        faultOf(x, "12x", 2, 1);
        faultOf(x, "12;0", 3, 2);
        // Asked anew after each character.
        int[] places = {1, NOT_FOUND, 3, 3, 3};
        x.clearText();
        for (int i = 0; i < places.length; i++) {
            x.type("-1;,5".charAt(i));
            Due.is("fault(0) with " + (i + 1) + " characters", x.fault(0), places[i]);
        }
    }

    @Says(in = "Promise 22", value = "INVALID_ARGUMENT if what is out of range")
    static void promise22_invalidIfWhatIsOutOfRange() {
        SurdFractions x = new SurdFractions();
        outOfRange("fault of the empty text", x::fault, -1, 2);
        write(x, "1;2");
        outOfRange("fault of none", x::fault, -1, 2);
    }

    @Says(in = "Promise 22", value = "NOT_FOUND if the text has no fault")
    static void promise22_notFoundIfTheTextHasNoFault() {
        hasNoFault("0", "-0", "1", "999", "-999;999,999", "1;2", FORTY_ALLOWED, "-1;1,1,1,1,1,1,1,1,1,1,1,1,1,1,1,1,1,1,1");
    }

    @Says(in = "Promise 23", value =
            "`what`: 0: its upper part plus 9000000000000000; 1: its lower part; 2: how many terms the text "
            + "has; 3: how many of them, from the first one on, are the terms of s; 4: 1 if it is above s, "
            + "otherwise 0")
    static void promise23_whatIsFrom0To4() {
        SurdFractions x = new SurdFractions();
        write(x, "1;2,3");
        long[] due = {9000000000000010L, 7, 3, 2, 1};
        for (int what = 0; what < due.length; what++) {
            Due.is("told(" + what + ")", x.told(what), due[what]);
        }
        range("told", x::told, 0, 4);
    }

    @Says(in = "Promise 23", value = "2: how many terms the text has")
    static void promise23_what2IsHowManyTermsTheTextHas() {
        SurdFractions x = new SurdFractions();
        String[] texts = {"0", "-0", "999", "1;2", "1;222", "1;2,3", "-1;2,3,4", FORTY_ALLOWED};
        int[] due = {1, 1, 1, 2, 2, 3, 4, 20};
        for (int i = 0; i < texts.length; i++) {
            write(x, texts[i]);
            Due.is("told(2) of " + texts[i], x.told(2), due[i]);
        }
    }

    @Says(in = "Promise 23", value = "3: how many of them, from the first one on, are the terms of s")
    static void promise23_what3IsHowManyAreTheTermsOfTheSurd() {
        SurdFractions x = new SurdFractions();
        // None, all, up to the first that is not, though later ones are.
        String[] texts = {"0", "2;2,2", "-1", "1", "1;2", "1;2,2", "1;1,2", "1;2,2,3,2,2", "1;2,2,1"};
        int[] due = {0, 0, 0, 1, 2, 3, 1, 3, 3};
        for (int i = 0; i < texts.length; i++) {
            write(x, texts[i]);
            Due.is("told(3) of " + texts[i], x.told(3), due[i]);
        }
        SurdFractions golden = of(1, 5, 2);
        write(golden, FORTY_ALLOWED);
        Due.is("told(3), all but the last", golden.told(3), 19);
        write(golden, "1;1,1,1,1,1,1,1,1,1,1,1,1,1,1,1,1,1,1,1");
        Due.is("told(3), all 20", golden.told(3), 20);
        SurdFractions below0 = of(0, 2, -99);
        write(below0, "-1;1,69");
        Due.is("told(3) of a surd below 0", below0.told(3), 3);
        SurdFractions near0 = of(0, 2, 99);
        write(near0, "-0;70");
        Due.is("told(3) with -0", near0.told(3), 2);
    }

    @Says(in = "Promise 23", value = "4: 1 if it is above s, otherwise 0")
    static void promise23_what4IsWhetherItIsAboveTheSurd() {
        // 99/70 and 239/169, but 0.00007.. above and 0.00001.. below
        isTold(new SurdFractions(), "1;2,2,2,2,2", 99, 70, 6, 6, 1);
        isTold(new SurdFractions(), "1;2,2,2,2,2,2", 239, 169, 7, 7, 0);
        isTold(of(0, 2, -1), "-2;1,1,2,2,2,2", -99, 70, 7, 7, 0);
        isTold(of(0, 2, -1), "-2;1,1,2,2,2,2,2", -239, 169, 8, 8, 1);
        isTold(new SurdFractions(), "-7", -7, 1, 1, 0, 0);
        isTold(of(0, 2, -1), "7", 7, 1, 1, 0, 1);
        isTold(of(0, 2, 99), "0", 0, 1, 1, 1, 0);
        isTold(of(0, 2, -99), "0", 0, 1, 1, 0, 1);
        isTold(of(99, 2, 99), "1", 1, 1, 1, 1, 0);
        isTold(of(99, 2, -99), "-1", -1, 1, 1, 0, 1);
    }

    @Says(in = "Promise 23", value = "Returns the number")
    static void promise23_returnsTheNumber() {
        isTold(new SurdFractions(), "0", 0, 1, 1, 0, 0);
        isTold(new SurdFractions(), "-999", -999, 1, 1, 0, 0);
        isTold(new SurdFractions(), "999;30", 29971, 30, 2, 0, 1);
        isTold(new SurdFractions(), "-3;1,2", -7, 3, 3, 0, 0);
    }

    @Says(in = "Promise 23", value = "INVALID_ARGUMENT if what is out of range")
    static void promise23_invalidIfWhatIsOutOfRange() {
        SurdFractions x = new SurdFractions();
        for (String text : new String[] {"", "1;0", "1;2", "999;999,999,999,999,999,999,999,999,999"}) {
            write(x, text);
            outOfRange("told of " + text, x::told, -1, 5);
        }
    }

    @Says(in = "Promise 23", value = "NOT_POSSIBLE if the text has a fault")
    static void promise23_notPossibleIfTheTextHasAFault() {
        SurdFractions x = new SurdFractions();
        for (String text : new String[] {"", "-", "1;", "1;0", "01", "1;2,3,", "1;1000", "1;2x"}) {
            write(x, text);
            for (int what = 0; what < 5; what++) {
                Due.is("told(" + what + ") of " + text, x.told(what), NOT_POSSIBLE);
            }
        }
    }

    private static void isAboveLimit(String... texts) {
        SurdFractions x = new SurdFractions();
        for (String text : texts) {
            write(x, text);
            Due.is("told(0) of " + text, x.told(0), LIMIT);
            Due.is("told(1) of " + text, x.told(1), LIMIT);
        }
    }

    @Says(in = "Promise 23", value = TOLD_LIMIT)
    static void promise23_limitReachedFor0And1IfTheUpperPartIsAboveTheLimit() {
        isTold(new SurdFractions(), "135;3,3,21,8,9,3,4,5,6,134,30,4,1,9,24,2", 9000000000000000L, 66518617519613L);
        // 9000000000000001/178223800581684
        isAboveLimit("50;2,147,14,7,1,2,165,3,5,73,2,16,13,22", "999;999,999,999,999,999,999,999,999,999");
    }

    @Says(in = "Promise 23", value = "without its sign")
    static void promise23_limitReachedFor0And1IfTheUpperPartIsAboveTheLimitWithoutItsSign() {
        isTold(new SurdFractions(), "-4;7,2,93,4,27,34,2,1,4,24,18,386,7,2,12", -9000000000000000L, 2327614755550309L);
        // -9000000000000001/943992998920619
        isAboveLimit("-10;2,6,1,6,8,688,2,8,42,8,11,690,1,8,4", "-999;999,999,999,999,999,999,999,999,999");
    }

    @Says(in = "Promise 23", value = "or the lower part of this fraction")
    static void promise23_limitReachedFor0And1IfTheLowerPartIsAboveTheLimit() {
        isTold(new SurdFractions(), "0;1,1,3,45,4,22,1,7,347,34,8,27,6,7,343", 5138823289989061L, 9000000000000000L);
        isTold(new SurdFractions(), "-1;19,62,4,22,2,362,73,1,1,8,3,821,7,5", -8526715962736049L, 9000000000000000L);
        // 8805764057443815/9000000000000001 and -7201327749569884/9000000000000001
        isAboveLimit("0;1,45,2,1,53,9,6,3,89,142,7,3,4,2,41,62", "-1;5,270,1,14,2,62,16,181,1,432,4,75,9");
    }

    @Says(in = "Promise 23", value = "or of one of the first terms of the text alone")
    static void promise23_limitReachedFor0And1IfAPartOfTheFirstTermsIsAboveTheLimit() {
        // 9000000000000001 without its sign as upper part, and as lower part, ahead of a last term.
        isAboveLimit("-29;13,4,789,4,4,2,4,10,15,578,9,1,6,7,1", "-1;5,270,1,14,2,62,16,181,1,432,4,75,9,1");
        // So far above that the last part would come back into the range, were a long to run over.
        for (String start : new String[] {"1;", "-1;", "0;", "999;", "-999;"}) {
            StringBuilder text = new StringBuilder(start).append("999,999,999,999,999,999,999");
            while (text.length() < 39) {
                text.append(",9");
                isAboveLimit(text.toString());
            }
        }
    }

    @Says(in = "Promise 23", value = "for 4 if the upper part is above 30000 without its sign")
    static void promise23_limitReachedFor4IfTheUpperPartIsAbove30000WithoutItsSign() {
        isTold(new SurdFractions(), "967;1,2,1,7", 30000, 31, 5, 0, 1);
        isTold(new SurdFractions(), "967;1,3,2,3", 30001, 31, 5, 0, LIMIT);
        isTold(new SurdFractions(), "-968;3,1,7", -30000, 31, 4, 0, 0);
        isTold(new SurdFractions(), "-968;4,2,3", -30001, 31, 4, 0, LIMIT);
        SurdFractions x = new SurdFractions();
        write(x, "999;999,999,999,999,999,999,999,999,999");
        Due.is("told(4) of parts above every limit", x.told(4), LIMIT);
        Due.is("told(2) has none", x.told(2), 10);
        Due.is("told(3) has none", x.told(3), 0);
    }

    @Says(in = "Promise 23", value = "or the lower part above 200")
    static void promise23_limitReachedFor4IfTheLowerPartIsAbove200() {
        isTold(new SurdFractions(), "1;200", 201, 200, 2, 1, 0);
        isTold(new SurdFractions(), "1;201", 202, 201, 2, 1, LIMIT);
        isTold(new SurdFractions(), "0;200", 1, 200, 2, 0, 0);
        isTold(new SurdFractions(), "0;201", 1, 201, 2, 0, LIMIT);
        isTold(new SurdFractions(), "-1;1,199", -1, 200, 3, 0, 0);
        isTold(new SurdFractions(), "-1;1,200", -1, 201, 3, 0, LIMIT);
    }
}
