import java.util.function.IntToLongFunction;

/** Calls whose answers many tests look at, and what they are named by. */
class Calls {
    static final int INVALID = -1000001;
    static final int NOT_POSSIBLE = -1000002;
    static final int LIMIT = -1000003;
    static final int NOT_FOUND = -1000004;
    static final long RAISED = 9000000000000000L;
    static final int LEAST_INT = Integer.MIN_VALUE;
    static final int GREATEST_INT = Integer.MAX_VALUE;

    static SurdFractions of(int p, int d, int q) {
        SurdFractions x = new SurdFractions();
        Due.is("surd(" + p + ", " + d + ", " + q + ")", x.surd(p, d, q), 0);
        return x;
    }

    static void write(SurdFractions x, String text) {
        x.clearText();
        for (int i = 0; i < text.length(); i++) {
            Due.is("type in " + text, x.type(text.charAt(i)), i + 1);
        }
    }

    static void note(SurdFractions x, String text, int due) {
        write(x, text);
        Due.is("note() of " + text, x.note(), due);
    }

    static void book(String name, SurdFractions x, int... parts) {
        Due.is(name + ": count(0)", x.count(0), parts.length / 2);
        for (int i = 0; i < parts.length / 2; i++) {
            Due.is(name + ": noteOf(" + i + ", 0)", x.noteOf(i, 0), parts[2 * i] + 1000000);
            Due.is(name + ": noteOf(" + i + ", 1)", x.noteOf(i, 1), parts[2 * i + 1]);
        }
    }

    static void isSurd(String name, SurdFractions x, int p, int d, int q) {
        Due.is(name + ": partOf(0)", x.partOf(0), p + 1000);
        Due.is(name + ": partOf(1)", x.partOf(1), d + 1000);
        Due.is(name + ": partOf(2)", x.partOf(2), q + 1000);
    }

    static void terms(SurdFractions x, int... terms) {
        for (int i = 0; i < terms.length; i++) {
            Due.is("term(" + i + ")", x.term(i), terms[i] + 1000);
        }
    }

    static void again(SurdFractions x, int... answers) {
        for (int i = 0; i < answers.length; i++) {
            Due.is("again(" + i + ")", x.again(i), answers[i]);
        }
    }

    static void isConvergent(SurdFractions x, int index, long upper, long lower) {
        Due.is("convergent(" + index + ", 0)", x.convergent(index, 0), upper + RAISED);
        Due.is("convergent(" + index + ", 1)", x.convergent(index, 1), lower);
    }

    static void isBetween(SurdFractions x, int index, int by, long upper, long lower) {
        Due.is("between(" + index + ", " + by + ", 0)", x.between(index, by, 0), upper + RAISED);
        Due.is("between(" + index + ", " + by + ", 1)", x.between(index, by, 1), lower);
    }

    static void isNearest(SurdFractions x, int bound, int upper, int lower) {
        Due.is("nearest(" + bound + ", 0)", x.nearest(bound, 0), upper + 1000000);
        Due.is("nearest(" + bound + ", 1)", x.nearest(bound, 1), lower);
    }

    static void isBeside(SurdFractions x, int bound, int above, int upper, int lower) {
        Due.is("beside(" + bound + ", " + above + ", 0)", x.beside(bound, above, 0), upper + 1000000);
        Due.is("beside(" + bound + ", " + above + ", 1)", x.beside(bound, above, 1), lower);
    }

    static void isSolution(SurdFractions x, int n, int index, int due0, int due1) {
        Due.is("solution(" + n + ", " + index + ", 0)", x.solution(n, index, 0), due0);
        Due.is("solution(" + n + ", " + index + ", 1)", x.solution(n, index, 1), due1);
    }

    static void faultOf(SurdFractions x, String text, int place, int reason) {
        write(x, text);
        Due.is("fault(0) of \"" + text + "\"", x.fault(0), place);
        Due.is("fault(1) of \"" + text + "\"", x.fault(1), reason);
    }

    static void isTold(SurdFractions x, String text, long upper, long... rest) {
        write(x, text);
        Due.is("told(0) of " + text, x.told(0), upper + RAISED);
        for (int i = 0; i < rest.length; i++) {
            Due.is("told(" + (i + 1) + ") of " + text, x.told(i + 1), rest[i]);
        }
    }

    /** The ends of a range are taken; what lies beyond them, near and far, is INVALID_ARGUMENT. */
    static void range(String name, IntToLongFunction call, int least, int greatest) {
        for (int end : new int[] {least, greatest}) {
            Due.isNot(name + " with " + end, call.applyAsLong(end), INVALID);
        }
        outOfRange(name, call, least - 1, greatest + 1);
    }

    static void outOfRange(String name, IntToLongFunction call, int below, int above) {
        for (int beyond : new int[] {below, above, LEAST_INT, GREATEST_INT}) {
            Due.is(name + " with " + beyond, call.applyAsLong(beyond), INVALID);
        }
    }

    static void count(String name, SurdFractions x, int fractions, int above, int states, int length) {
        int[] due = {fractions, above, states, length};
        for (int i = 0; i < due.length; i++) {
            Due.is(name + ": count(" + i + ")", x.count(i), due[i]);
        }
    }
}
