import java.util.Arrays;
import java.util.function.LongSupplier;

/** What the document says of changes, the history, errors and how long an object is used. */
final class ChangesSentences extends Calls {
    private static final String PRECEDENCE = "If several errors apply to a call, INVALID_ARGUMENT is returned rather than "
            + "NOT_POSSIBLE, NOT_POSSIBLE rather than LIMIT_REACHED, and LIMIT_REACHED rather than NOT_FOUND.";

    private ChangesSentences() {
    }

    @Says(in = "What it is", value = "An object is used for at most 512 calls after it has been made")
    static void object_isUsedFor512Calls() {
        SurdFractions x = new SurdFractions();
        // 56 rounds of 9 calls, and 8 calls behind them.
        for (int round = 1; round <= 56; round++) {
            Due.is("type('1')", x.type('1'), 1);
            Due.is("note()", x.note(), 0);
            Due.is("surd(0, 7, 1)", x.surd(0, 7, 1), 0);
            Due.is("term(1)", x.term(1), 1001);
            Due.is("undo()", x.undo(), 1);
            Due.is("strike(0)", x.strike(0), 0);
            Due.is("clearText()", x.clearText(), 1);
            Due.is("undo()", x.undo(), 1);
            Due.is("undo()", x.undo(), 0);
        }
        Due.is("undo() of none", x.undo(), NOT_POSSIBLE);
        isSurd("to the end", x, 0, 2, 1);
        isNearest(x, 5, 7, 5);
        Due.is("surd(0, 61, 1)", x.surd(0, 61, 1), 0);
        Due.is("the last call", x.leastSolution(0), 1766319049L);
    }

    @Says(in = "Changes and errors", value =
            "The changes are the calls of surd, note, strike and strikeAll that return no error.")
    static void changes_areSurdNoteStrikeAndStrikeAll() {
        SurdFractions x = new SurdFractions();
        Due.is("surd(0, 2, 1), which changes no number", x.surd(0, 2, 1), 0);
        Due.is("count(2)", x.count(2), 1);
        note(x, "1", 0);
        Due.is("count(2)", x.count(2), 2);
        Due.is("strike(0)", x.strike(0), 0);
        Due.is("count(2)", x.count(2), 3);
        Due.is("strikeAll() of none", x.strikeAll(), 0);
        Due.is("count(2)", x.count(2), 4);
        for (int left = 3; left >= 0; left--) {
            Due.is("undo()", x.undo(), left);
        }
        book("all undone", x);
    }

    @Says(in = "Changes and errors", value = "that return no error")
    static void changes_areNoOtherCallsAndNoneWithAnError() {
        SurdFractions x = new SurdFractions();
        Due.is("surd(0, 4, 1)", x.surd(0, 4, 1), NOT_POSSIBLE);
        Due.is("surd(100, 2, 1)", x.surd(100, 2, 1), INVALID);
        Due.is("note()", x.note(), NOT_POSSIBLE);
        Due.is("strike(0)", x.strike(0), NOT_POSSIBLE);
        Due.is("strike(-1)", x.strike(-1), INVALID);
        Due.is("undo()", x.undo(), NOT_POSSIBLE);
        write(x, "1;2");
        x.clearText();
        for (LongSupplier ask : asks(x)) {
            ask.getAsLong();
        }
        Due.is("count(2)", x.count(2), 0);
        for (int i = 1; i <= 8; i++) {
            note(x, String.valueOf(i), i - 1);
        }
        Due.is("undo()", x.undo(), 3);
        Due.is("undo()", x.undo(), 2);
        note(x, "7", 6);
        note(x, "8", 7);
        Due.is("undo()", x.undo(), 3);
        note(x, "8", 7);
        Due.is("undo()", x.undo(), 3);
        Due.is("count(2)", x.count(2), 3);
        note(x, "8", 7);
        note(x, "9", LIMIT);
        Due.is("undo() of the last note that was one", x.undo(), 3);
        Due.is("count(0)", x.count(0), 7);
    }

    @Says(in = "Changes and errors", value = "A history of at most 4 states is kept")
    static void changes_aHistoryOf4StatesIsKept() {
        SurdFractions x = new SurdFractions();
        int[] roots = {3, 5, 6, 7};
        for (int i = 0; i < roots.length; i++) {
            Due.is("surd", x.surd(0, roots[i], 1), 0);
            Due.is("count(2)", x.count(2), i + 1);
        }
        int[] back = {6, 5, 3, 2};
        for (int i = 0; i < back.length; i++) {
            Due.is("undo()", x.undo(), 3 - i);
            isSurd("back", x, 0, back[i], 1);
        }
        Due.is("undo() of none", x.undo(), NOT_POSSIBLE);
    }

    @Says(in = "Changes and errors", value = "if there are 5 states then, the oldest one is dropped")
    static void changes_theOldestOf5StatesIsDropped() {
        SurdFractions x = new SurdFractions();
        int[] roots = {3, 5, 6, 7, 8, 10, 11, 12, 13};
        for (int i = 0; i < roots.length; i++) {
            Due.is("surd", x.surd(0, roots[i], 1), 0);
            Due.is("count(2)", x.count(2), Math.min(i + 1, 4));
        }
        Due.is("undo()", x.undo(), 3);
        isSurd("back", x, 0, 12, 1);
        Due.is("surd(0, 14, 1)", x.surd(0, 14, 1), 0);
        Due.is("surd(0, 15, 1)", x.surd(0, 15, 1), 0);
        int[] back = {14, 12, 11, 10};
        for (int i = 0; i < back.length; i++) {
            Due.is("undo()", x.undo(), 3 - i);
            isSurd("back", x, 0, back[i], 1);
        }
        Due.is("undo() of the dropped one", x.undo(), NOT_POSSIBLE);
        isSurd("nothing further back", x, 0, 10, 1);
    }

    @Says(in = "Changes and errors", value = "each change records everything before it but the text")
    static void changes_recordEverythingButTheText() {
        SurdFractions x = of(3, 7, 2);
        note(x, "2", 0);
        note(x, "3", 0);
        write(x, "2;1,4");
        Due.is("surd(-5, 11, -4)", x.surd(-5, 11, -4), 0);
        Due.is("strikeAll()", x.strikeAll(), 2);
        write(x, "1;2");
        Due.is("undo() of strikeAll", x.undo(), 3);
        isSurd("p, d and q of then", x, -5, 11, -4);
        book("the book of then", x, 2, 1, 3, 1);
        isTold(x, "1;2", 3, 2);
        Due.is("undo() of surd", x.undo(), 2);
        isSurd("p, d and q before", x, 3, 7, 2);
        terms(x, 2, 1, 4);
        book("the book before", x, 3, 1, 2, 1);
        Due.is("the text stays: count(3)", x.count(3), 3);
        Due.is("the text stays: told(0)", x.told(0), RAISED + 3);
        x.clearText();
        Due.is("undo() of note", x.undo(), 1);
        Due.is("the text stays empty: count(3)", x.count(3), 0);
    }

    @Says(in = "Changes and errors", value = PRECEDENCE)
    static void errors_invalidArgumentIsReturnedRatherThanNotPossible() {
        SurdFractions x = new SurdFractions();
        Due.is("surd(100, 4, 1)", x.surd(100, 4, 1), INVALID);
        Due.is("surd(0, 4, 0)", x.surd(0, 4, 0), INVALID);
        Due.is("surd(0, 961, 100)", x.surd(0, 961, 100), INVALID);
        Due.is("surd of 1, out of range and a square", x.surd(0, 1, 1), INVALID);
        Due.is("surd of 1024, out of range and a square", x.surd(0, 1024, 1), INVALID);
        Due.is("surd of 0, out of range and a square", x.surd(0, 0, 1), INVALID);
        Due.is("strike(-1) of none", x.strike(-1), INVALID);
        Due.is("told(5) of the empty text", x.told(5), INVALID);
        Due.is("told(-1) of the empty text", x.told(-1), INVALID);
    }

    @Says(in = "Changes and errors", value = "NOT_POSSIBLE rather than LIMIT_REACHED")
    static void errors_notPossibleIsReturnedRatherThanLimitReached() {
        SurdFractions x = new SurdFractions();
        for (int i = 1; i <= 8; i++) {
            note(x, String.valueOf(i), i - 1);
        }
        note(x, "9", LIMIT);
        note(x, "", NOT_POSSIBLE);
        note(x, "9;", NOT_POSSIBLE);
        note(x, "9;0", NOT_POSSIBLE);
        note(x, "1;201", NOT_POSSIBLE);
        note(x, "-968;4,2,3", NOT_POSSIBLE);
        note(x, "8", NOT_POSSIBLE);
        note(x, "7;1", NOT_POSSIBLE);
        write(x, "999;999,999,999,999,999,999,999,999,0");
        for (int what : new int[] {0, 1, 4}) {
            Due.is("told(" + what + ") of a fault behind great parts", x.told(what), NOT_POSSIBLE);
        }
    }

    @Says(in = "Changes and errors", value = "and LIMIT_REACHED rather than NOT_FOUND")
    static void errors_invalidArgumentIsReturnedRatherThanLimitReachedAndNotFound() {
        // No call has both LIMIT_REACHED and NOT_FOUND; so each of the two is set against INVALID_ARGUMENT.
        SurdFractions x = new SurdFractions();
        Due.is("convergent(399, 2)", x.convergent(399, 2), INVALID);
        Due.is("convergent(400, 0)", x.convergent(400, 0), INVALID);
        Due.is("between(399, 2, 0)", x.between(399, 2, 0), INVALID);
        Due.is("between(399, 1, 2)", x.between(399, 1, 2), INVALID);
        Due.is("again(5)", of(-80, 106, -53).again(5), INVALID);
        Due.is("leastSolution(2)", of(0, 991, 1).leastSolution(2), INVALID);
        Due.is("noteOf(0, 4) of none", x.noteOf(0, 4), INVALID);
        Due.is("noteOf(-1, 0) of none", x.noteOf(-1, 0), INVALID);
        Due.is("solution(5, 0, 2), which has none", x.solution(5, 0, 2), INVALID);
        Due.is("solution(5, -1, 0), which has none", x.solution(5, -1, 0), INVALID);
        write(x, "1;2");
        Due.is("fault(2) of none", x.fault(2), INVALID);
        write(x, "999;999,999,999,999,999,999,999,999,999");
        Due.is("told(5) of great parts", x.told(5), INVALID);
        write(x, "0123456789012345678901234567890123456789");
        Due.is("type(31) beyond 40", x.type(31), INVALID);
    }

    /** Enough of what may be asked to see every part of a state, and no change. */
    private static LongSupplier[] asks(SurdFractions x) {
        return new LongSupplier[] {
            () -> x.partOf(0), () -> x.partOf(1), () -> x.partOf(2), () -> x.term(0), () -> x.term(5), () -> x.again(1),
            () -> x.convergent(9, 0), () -> x.between(3, 1, 1), () -> x.nearest(200, 0), () -> x.beside(9, 1, 1),
            () -> x.records(200), () -> x.solutions(1), () -> x.solution(1, 1, 0), () -> x.leastSolution(0),
            () -> x.noteOf(0, 0), () -> x.noteOf(1, 0), () -> x.noteOf(6, 0), () -> x.noteOf(7, 0), () -> x.noteOf(7, 1),
            () -> x.count(0), () -> x.count(1), () -> x.count(2), () -> x.count(3), () -> x.fault(0), () -> x.fault(1),
            () -> x.told(0), () -> x.told(1), () -> x.told(2), () -> x.told(3), () -> x.told(4),
        };
    }

    private static long[] answers(SurdFractions x) {
        return Arrays.stream(asks(x)).mapToLong(LongSupplier::getAsLong).toArray();
    }

    private static void changesNothing(String name, SurdFractions x, LongSupplier call, long error) {
        long[] before = answers(x);
        Due.is(name, call.getAsLong(), error);
        Due.holds(name + " has changed something", Arrays.equals(before, answers(x)));
    }

    @Says(in = "Changes and errors", value = "A call that returns an error changes nothing.")
    static void errors_changeNothing() {
        SurdFractions x = new SurdFractions();
        changesNothing("undo() of none", x, x::undo, NOT_POSSIBLE);
        changesNothing("strike(0) of none", x, () -> x.strike(0), NOT_POSSIBLE);
        changesNothing("note() of no text", x, x::note, NOT_POSSIBLE);
        changesNothing("surd(5, 9, 7)", x, () -> x.surd(5, 9, 7), NOT_POSSIBLE);
        changesNothing("surd(5, 7, 0)", x, () -> x.surd(5, 7, 0), INVALID);
        changesNothing("surd(5, 1000, 7)", x, () -> x.surd(5, 1000, 7), INVALID);
        changesNothing("type(31)", x, () -> x.type(31), INVALID);
    }

    @Says(in = "Changes and errors", value = "A call that returns an error changes nothing.")
    static void errors_changeNothingOfAFullObject() {
        SurdFractions x = new SurdFractions();
        for (int i = 1; i <= 8; i++) {
            note(x, String.valueOf(i), i - 1);
        }
        changesNothing("strike(8)", x, () -> x.strike(8), NOT_POSSIBLE);
        changesNothing("strike(-1)", x, () -> x.strike(-1), INVALID);
        changesNothing("note() once more", x, x::note, NOT_POSSIBLE);
        write(x, "1;2");
        changesNothing("note() beyond 8", x, x::note, LIMIT);
        changesNothing("surd(5, 9, 7)", x, () -> x.surd(5, 9, 7), NOT_POSSIBLE);
        write(x, "1;1,1,1,1,1,1,1,1,1,1,1,1,1,1,1,1,1,1,11");
        changesNothing("type('1') beyond 40", x, () -> x.type('1'), LIMIT);
    }

    private static void constant(String name, int due) {
        try {
            Due.is(name, SurdFractions.class.getField(name).getInt(null), due);
        } catch (ReflectiveOperationException missing) {
            Due.tell(name + " is missing");
        }
    }

    @Says(in = "Changes and errors", value = "`INVALID_ARGUMENT = -1000001`: An argument is out of its range.")
    static void errors_invalidArgument() {
        constant("INVALID_ARGUMENT", -1000001);
        Due.is("partOf(3)", new SurdFractions().partOf(3), -1000001);
    }

    @Says(in = "Changes and errors", value =
            "`NOT_POSSIBLE = -1000002`: The call is not possible in the present state.")
    static void errors_notPossible() {
        constant("NOT_POSSIBLE", -1000002);
        Due.is("undo()", new SurdFractions().undo(), -1000002);
    }

    @Says(in = "Changes and errors", value = "`LIMIT_REACHED = -1000003`: A fixed limit has been reached.")
    static void errors_limitReached() {
        constant("LIMIT_REACHED", -1000003);
        Due.is("convergent(399, 0)", new SurdFractions().convergent(399, 0), -1000003);
    }

    @Says(in = "Changes and errors", value = "`NOT_FOUND = -1000004`: There is no such value.")
    static void errors_notFound() {
        constant("NOT_FOUND", -1000004);
        Due.is("noteOf(0, 0)", new SurdFractions().noteOf(0, 0), -1000004);
    }
}
