/** Fractions for a surd, (p + the square root of d) / q, all of them told exactly. */
public final class SurdFractions {
    public static final int INVALID_ARGUMENT = -1000001;
    public static final int NOT_POSSIBLE = -1000002;
    public static final int LIMIT_REACHED = -1000003;
    public static final int NOT_FOUND = -1000004;

    private static final int TERMS = 400;
    private static final int BOOK_SIZE = 8;
    private static final int HISTORY_SIZE = 4;
    private static final int TEXT_SIZE = 40;

    private static final int LEAST_D = 2;
    private static final int GREATEST_D = 999;
    private static final int GREATEST_P_OR_Q = 99;
    private static final int GREATEST_BOUND = 200;
    private static final int GREATEST_N = 60;
    private static final int GREATEST_Y = 5000;
    private static final int BOOK_UPPER = 30000;
    private static final int BOOK_LOWER = 200;
    private static final long GREATEST_PART = 9000000000000000L;

    // What the answers that may be below 0 are raised by, so that they are no errors.
    private static final int RAISE = 1000;
    private static final int RAISE_UPPER = 1000000;

    private final State now = new State();
    private final History history = new History();
    private final Expansion expansion = new Expansion();
    private final Neighbours neighbours = new Neighbours();
    private final Squares squares = new Squares();
    private final Text text = new Text();
    private final Chain fraction = new Chain();

    public SurdFractions() {
        expansion.unfold(now.surd);
    }

    // ---- the surd

    public int surd(int p, int d, int q) {
        if (!isWithin(p, -GREATEST_P_OR_Q, GREATEST_P_OR_Q) || !isWithin(d, LEAST_D, GREATEST_D)
                || !isWithin(q, -GREATEST_P_OR_Q, GREATEST_P_OR_Q) || q == 0) {
            return INVALID_ARGUMENT;
        }
        if (isSquare(d)) {
            return NOT_POSSIBLE;
        }
        history.keep(now);
        now.surd.set(p, d, q);
        now.book.putInOrder(now.surd);
        expansion.unfold(now.surd);
        return 0;
    }

    public int partOf(int what) {
        switch (what) {
            case 0: return now.surd.p + RAISE;
            case 1: return now.surd.d + RAISE;
            case 2: return now.surd.q + RAISE;
            default: return INVALID_ARGUMENT;
        }
    }

    public int term(int index) {
        if (!isWithin(index, 0, TERMS - 1)) {
            return INVALID_ARGUMENT;
        }
        return expansion.termAt(index) + RAISE;
    }

    public int again(int what) {
        if (!isWithin(what, 0, 4)) {
            return INVALID_ARGUMENT;
        }
        if (!expansion.comesAgain()) {
            return LIMIT_REACHED;
        }
        switch (what) {
            case 0: return expansion.lead;
            case 1: return expansion.period;
            case 2: return expansion.greatestOfPeriod();
            case 3: return expansion.unlikeOfPeriod();
            default: return oneIf(expansion.isPeriodMirrored());
        }
    }

    // ---- convergents

    public long convergent(int index, int part) {
        if (!isWithin(index, 0, TERMS - 1) || !isWithin(part, 0, 1)) {
            return INVALID_ARGUMENT;
        }
        if (index >= expansion.convergents) {
            return LIMIT_REACHED;
        }
        return part == 0 ? expansion.upperAt(index) + GREATEST_PART : expansion.lowerAt(index);
    }

    public long between(int index, int by, int part) {
        if (!isWithin(index, 2, TERMS - 1) || !isWithin(part, 0, 1)
                || !isWithin(by, 1, expansion.termAt(index) - 1)) {
            return INVALID_ARGUMENT;
        }
        if (index >= expansion.convergents) {
            return LIMIT_REACHED;
        }
        if (part == 0) {
            return by * expansion.upperAt(index - 1) + expansion.upperAt(index - 2) + GREATEST_PART;
        }
        return by * expansion.lowerAt(index - 1) + expansion.lowerAt(index - 2);
    }

    public int nearest(int bound, int part) {
        if (!isWithin(bound, 1, GREATEST_BOUND) || !isWithin(part, 0, 1)) {
            return INVALID_ARGUMENT;
        }
        neighbours.find(now.surd, expansion.termAt(0), bound);
        return neighbourPart(neighbours.isAboveNearer(now.surd), part);
    }

    public int beside(int bound, int above, int part) {
        if (!isWithin(bound, 1, GREATEST_BOUND) || !isWithin(above, 0, 1) || !isWithin(part, 0, 1)) {
            return INVALID_ARGUMENT;
        }
        neighbours.find(now.surd, expansion.termAt(0), bound);
        return neighbourPart(above == 1, part);
    }

    public int records(int bound) {
        if (!isWithin(bound, 1, GREATEST_BOUND)) {
            return INVALID_ARGUMENT;
        }
        neighbours.find(now.surd, expansion.termAt(0), bound);
        return neighbours.recordsMet;
    }

    // ---- the equation of squares

    public int solution(int n, int index, int part) {
        if (!isRightSide(n) || index < 0 || !isWithin(part, 0, 1)) {
            return INVALID_ARGUMENT;
        }
        if (!squares.find(now.surd.d, n, index)) {
            return NOT_FOUND;
        }
        return (int) (part == 0 ? squares.x : squares.y);
    }

    public int solutions(int n) {
        if (!isRightSide(n)) {
            return INVALID_ARGUMENT;
        }
        return squares.countAll(now.surd.d, n);
    }

    public long leastSolution(int part) {
        if (!isWithin(part, 0, 1)) {
            return INVALID_ARGUMENT;
        }
        if (!squares.findLeast(now.surd.d)) {
            return LIMIT_REACHED;
        }
        return part == 0 ? squares.x : squares.y;
    }

    // ---- the book

    public int note() {
        text.read();
        if (text.hasFault()) {
            return NOT_POSSIBLE;
        }
        text.chainTerms(fraction);
        if (!fitsBook(fraction) || now.book.has(fraction.upper, fraction.lower)) {
            return NOT_POSSIBLE;
        }
        if (now.book.size >= BOOK_SIZE) {
            return LIMIT_REACHED;
        }
        history.keep(now);
        return now.book.add(now.surd, (int) fraction.upper, (int) fraction.lower);
    }

    public int strike(int place) {
        if (place < 0) {
            return INVALID_ARGUMENT;
        }
        if (place >= now.book.size) {
            return NOT_POSSIBLE;
        }
        history.keep(now);
        now.book.remove(place);
        return now.book.size;
    }

    public int strikeAll() {
        int before = now.book.size;
        history.keep(now);
        now.book.size = 0;
        return before;
    }

    public int noteOf(int place, int what) {
        if (place < 0 || !isWithin(what, 0, 3)) {
            return INVALID_ARGUMENT;
        }
        if (place >= now.book.size) {
            return NOT_FOUND;
        }
        int upper = now.book.upperAt(place);
        int lower = now.book.lowerAt(place);
        switch (what) {
            case 0: return upper + RAISE_UPPER;
            case 1: return lower;
            case 2: return oneIf(now.surd.isPassedBy(upper, lower));
            default: return oneIf(expansion.hasConvergent(upper, lower));
        }
    }

    public int count(int what) {
        switch (what) {
            case 0: return now.book.size;
            case 1: return now.book.countAbove(now.surd);
            case 2: return history.size;
            case 3: return text.length;
            default: return INVALID_ARGUMENT;
        }
    }

    public int undo() {
        if (history.size == 0) {
            return NOT_POSSIBLE;
        }
        history.takeBack(now);
        expansion.unfold(now.surd);
        return history.size;
    }

    // ---- texts

    public int type(int character) {
        if (!isWithin(character, 32, 126)) {
            return INVALID_ARGUMENT;
        }
        if (text.length >= TEXT_SIZE) {
            return LIMIT_REACHED;
        }
        text.append((char) character);
        return text.length;
    }

    public int clearText() {
        int before = text.length;
        text.length = 0;
        return before;
    }

    public int fault(int what) {
        if (!isWithin(what, 0, 1)) {
            return INVALID_ARGUMENT;
        }
        text.read();
        if (!text.hasFault()) {
            return NOT_FOUND;
        }
        return what == 0 ? text.faultPlace : text.faultReason;
    }

    public long told(int what) {
        if (!isWithin(what, 0, 4)) {
            return INVALID_ARGUMENT;
        }
        text.read();
        if (text.hasFault()) {
            return NOT_POSSIBLE;
        }
        switch (what) {
            case 2: return text.termCount;
            case 3: return expansion.countShared(text);
            case 4: return toldAbove();
            default: return toldPart(what);
        }
    }

    // ---- helpers

    private long toldAbove() {
        text.chainTerms(fraction);
        return fitsBook(fraction) ? oneIf(now.surd.isPassedBy(fraction.upper, fraction.lower)) : LIMIT_REACHED;
    }

    private long toldPart(int part) {
        text.chainTerms(fraction);
        if (fraction.isOver) {
            return LIMIT_REACHED;
        }
        return part == 0 ? fraction.upper + GREATEST_PART : fraction.lower;
    }

    private int neighbourPart(boolean above, int part) {
        if (part == 0) {
            return (int) (above ? neighbours.aboveUpper : neighbours.belowUpper) + RAISE_UPPER;
        }
        return (int) (above ? neighbours.aboveLower : neighbours.belowLower);
    }

    private static boolean isWithin(int number, int least, int greatest) {
        return number >= least && number <= greatest;
    }

    private static boolean isRightSide(int n) {
        return isWithin(n, -GREATEST_N, GREATEST_N) && n != 0;
    }

    private static boolean isSquare(int number) {
        long root = Steps.rootOf(number);
        return root * root == number;
    }

    private static boolean fitsBook(Chain chain) {
        return !chain.isOver && Math.abs(chain.upper) <= BOOK_UPPER && chain.lower <= BOOK_LOWER;
    }

    private static int oneIf(boolean is) {
        return is ? 1 : 0;
    }

    /** The surd itself, and where fractions stand to it. */
    private static final class Surd {
        int p;
        int d = 2;
        int q = 1;

        void set(int newP, int newD, int newQ) {
            p = newP;
            d = newD;
            q = newQ;
        }

        /** Tells whether the fraction is above the surd. */
        boolean isPassedBy(long upper, long lower) {
            // Against the lower part times the root of d; a q below 0 turns the order round.
            long side = q * upper - p * lower;
            boolean isAboveRoot = side > 0 && side * side > lower * lower * d;
            return isAboveRoot == (q > 0);
        }

        /** Tells whether the fraction is nearer to the surd than the other one. */
        boolean isNearer(long upper, long lower, long otherUpper, long otherLower) {
            boolean isAbove = isPassedBy(upper, lower);
            long cross = upper * otherLower;
            long otherCross = otherUpper * lower;
            if (isAbove == isPassedBy(otherUpper, otherLower)) {
                return isAbove ? cross < otherCross : cross > otherCross;
            }
            // On unlike sides the nearer one is where their middle is not.
            return isAbove != isPassedBy(cross + otherCross, 2 * lower * otherLower);
        }
    }

    /** Fractions in order by how near they are to the surd. */
    private static final class Book {
        private final int[] uppers = new int[BOOK_SIZE];
        private final int[] lowers = new int[BOOK_SIZE];
        int size;

        int upperAt(int place) {
            return place >= 0 && place < uppers.length ? uppers[place] : 0;
        }

        int lowerAt(int place) {
            return place >= 0 && place < lowers.length ? lowers[place] : 1;
        }

        private void put(int place, int upper, int lower) {
            if (place >= 0 && place < uppers.length && place < lowers.length) {
                uppers[place] = upper;
                lowers[place] = lower;
            }
        }

        boolean has(long upper, long lower) {
            for (int i = 0; i < size; i++) {
                if (upperAt(i) == upper && lowerAt(i) == lower) {
                    return true;
                }
            }
            return false;
        }

        /** Puts the fraction where it belongs and tells where that is. */
        int add(Surd surd, int upper, int lower) {
            int place = size;
            while (place > 0 && surd.isNearer(upper, lower, upperAt(place - 1), lowerAt(place - 1))) {
                put(place, upperAt(place - 1), lowerAt(place - 1));
                place--;
            }
            put(place, upper, lower);
            size++;
            return place;
        }

        void remove(int place) {
            size--;
            for (int i = place; i < size; i++) {
                put(i, upperAt(i + 1), lowerAt(i + 1));
            }
        }

        void putInOrder(Surd surd) {
            int all = size;
            size = 0;
            for (int i = 0; i < all; i++) {
                add(surd, upperAt(i), lowerAt(i));
            }
        }

        int countAbove(Surd surd) {
            int above = 0;
            for (int i = 0; i < size; i++) {
                if (surd.isPassedBy(upperAt(i), lowerAt(i))) {
                    above++;
                }
            }
            return above;
        }

        void copyFrom(Book other) {
            size = other.size;
            for (int i = 0; i < size; i++) {
                put(i, other.upperAt(i), other.lowerAt(i));
            }
        }
    }

    /** All that undo brings back. */
    private static final class State {
        final Surd surd = new Surd();
        final Book book = new Book();

        void copyFrom(State other) {
            surd.set(other.surd.p, other.surd.d, other.surd.q);
            book.copyFrom(other.book);
        }
    }

    /** The latest states, the oldest one first; their objects are made once and used again. */
    private static final class History {
        private final State[] states = new State[HISTORY_SIZE];
        int size;

        History() {
            for (int i = 0; i < states.length; i++) {
                states[i] = new State();
            }
        }

        void keep(State state) {
            if (size >= states.length) {
                dropOldest();
            }
            if (size >= 0 && size < states.length && states[size] != null) {
                states[size].copyFrom(state);
                size++;
            }
        }

        void takeBack(State state) {
            if (size > 0 && size <= states.length && states[size - 1] != null) {
                size--;
                state.copyFrom(states[size]);
            }
        }

        private void dropOldest() {
            if (states.length == 0) {
                return;
            }
            State oldest = states[0];
            for (int i = 1; i < states.length; i++) {
                states[i - 1] = states[i];
            }
            states[states.length - 1] = oldest;
            size = states.length - 1;
        }
    }

    /** The exact steps from one surd to the next: each is (top + the root of square) / bottom. */
    private static final class Steps {
        private static final long GREATEST_ROOT_BIT = 1L << 15;

        long top;
        long bottom;
        private long square;
        private long root;

        void begin(long p, long d, long q) {
            // So scaled, bottom divides square - top * top, here and after every step.
            long scale = Math.abs(q);
            top = p * scale;
            bottom = q * scale;
            square = d * scale * scale;
            root = rootOf(square);
        }

        /** The greatest whole number not above this surd. */
        long whole() {
            if (bottom > 0) {
                return Math.floorDiv(top + root, bottom);
            }
            if (bottom < 0) {
                // Without the sign it lies strictly between two whole numbers.
                return -1 - Math.floorDiv(top + root, -bottom);
            }
            return 0;
        }

        void advance() {
            if (bottom == 0) {
                return;
            }
            top = whole() * bottom - top;
            bottom = (square - top * top) / bottom;
        }

        /** Tells whether this surd is above 1 and its conjugate between -1 and 0: just such ones come again. */
        boolean isReduced() {
            return top > 0 && top <= root && bottom > root - top && bottom <= root + top;
        }

        /** The greatest whole number whose square is not above the number, which is below 2^32. */
        static long rootOf(long number) {
            long root = 0;
            for (long bit = GREATEST_ROOT_BIT; bit > 0; bit >>= 1) {
                if ((root + bit) * (root + bit) <= number) {
                    root += bit;
                }
            }
            return root;
        }
    }

    /** The fraction that the terms up to now make, until a part of it is too great. */
    private static final class Chain {
        long upper;
        long lower;
        boolean isOver;
        private long upperAhead;
        private long lowerAhead;

        void begin() {
            upper = 1;
            lower = 0;
            upperAhead = 0;
            lowerAhead = 1;
            isOver = false;
        }

        void add(long term) {
            if (isOver || isTooGreat(term, upper, upperAhead) || isTooGreat(term, lower, lowerAhead)) {
                isOver = true;
                return;
            }
            long nextUpper = term * upper + upperAhead;
            long nextLower = term * lower + lowerAhead;
            upperAhead = upper;
            lowerAhead = lower;
            upper = nextUpper;
            lower = nextLower;
        }

        private static boolean isTooGreat(long term, long part, long partAhead) {
            long size = Math.abs(term);
            // Looked at first by a division, as the product may not fit a long.
            if (size > 0 && Math.abs(part) > (GREATEST_PART + Math.abs(partAhead)) / size) {
                return true;
            }
            return Math.abs(term * part + partAhead) > GREATEST_PART;
        }
    }

    /** The terms of the surd, where they come again, and the convergents that can be told. */
    private static final class Expansion {
        private final int[] terms = new int[TERMS];
        private final long[] uppers = new long[TERMS];
        private final long[] lowers = new long[TERMS];
        private final Steps steps = new Steps();
        private final Chain chain = new Chain();
        private long leadTop;
        private long leadBottom;
        int lead;
        int period;
        int convergents;

        void unfold(Surd surd) {
            lead = -1;
            period = 0;
            steps.begin(surd.p, surd.d, surd.q);
            for (int i = 0; i < terms.length; i++) {
                lookForPeriod(i);
                terms[i] = (int) steps.whole();
                steps.advance();
            }
            lookForPeriod(terms.length);
            chainConvergents();
        }

        private void lookForPeriod(int index) {
            if (lead < 0) {
                if (steps.isReduced()) {
                    lead = index;
                    leadTop = steps.top;
                    leadBottom = steps.bottom;
                }
            } else if (period == 0 && steps.top == leadTop && steps.bottom == leadBottom) {
                period = index - lead;
            }
        }

        private void chainConvergents() {
            convergents = 0;
            chain.begin();
            for (int i = 0; i < TERMS && i < uppers.length && i < lowers.length; i++) {
                chain.add(termAt(i));
                if (chain.isOver) {
                    return;
                }
                uppers[i] = chain.upper;
                lowers[i] = chain.lower;
                convergents++;
            }
        }

        int termAt(int index) {
            return index >= 0 && index < terms.length ? terms[index] : 0;
        }

        long upperAt(int index) {
            return index >= 0 && index < uppers.length ? uppers[index] : 0;
        }

        long lowerAt(int index) {
            return index >= 0 && index < lowers.length ? lowers[index] : 1;
        }

        boolean comesAgain() {
            return period > 0;
        }

        int greatestOfPeriod() {
            int greatest = 0;
            for (int i = 0; i < period; i++) {
                greatest = Math.max(greatest, termAt(lead + i));
            }
            return greatest;
        }

        int unlikeOfPeriod() {
            int unlike = 0;
            for (int i = 0; i < period; i++) {
                if (isNewInPeriod(i)) {
                    unlike++;
                }
            }
            return unlike;
        }

        private boolean isNewInPeriod(int offset) {
            for (int i = 0; i < offset; i++) {
                if (termAt(lead + i) == termAt(lead + offset)) {
                    return false;
                }
            }
            return true;
        }

        boolean isPeriodMirrored() {
            int last = period - 2;
            for (int i = 0; i < last - i; i++) {
                if (termAt(lead + i) != termAt(lead + last - i)) {
                    return false;
                }
            }
            return true;
        }

        boolean hasConvergent(long upper, long lower) {
            for (int i = 0; i < convergents; i++) {
                if (upperAt(i) == upper && lowerAt(i) == lower) {
                    return true;
                }
            }
            return false;
        }

        int countShared(Text text) {
            int shared = 0;
            while (shared < text.termCount && text.termAt(shared) == termAt(shared)) {
                shared++;
            }
            return shared;
        }
    }

    /** The fractions next to the surd below and above, as mediants come between them. */
    private static final class Neighbours {
        long belowUpper;
        long belowLower;
        long aboveUpper;
        long aboveLower;
        int recordsMet;

        void find(Surd surd, int whole, int bound) {
            belowUpper = whole;
            belowLower = 1;
            aboveUpper = whole + 1;
            aboveLower = 1;
            recordsMet = 1;
            // The lower parts grow by 1 at least in each round.
            for (int round = 0; round < bound && belowLower + aboveLower <= bound; round++) {
                takeMediant(surd);
            }
        }

        // No fraction with a lesser lower part than the mediant's stands between the two.
        private void takeMediant(Surd surd) {
            long upper = belowUpper + aboveUpper;
            long lower = belowLower + aboveLower;
            if (surd.isNearer(upper, lower, belowUpper, belowLower)
                    && surd.isNearer(upper, lower, aboveUpper, aboveLower)) {
                recordsMet++;
            }
            if (surd.isPassedBy(upper, lower)) {
                aboveUpper = upper;
                aboveLower = lower;
            } else {
                belowUpper = upper;
                belowLower = lower;
            }
        }

        boolean isAboveNearer(Surd surd) {
            return surd.isNearer(aboveUpper, aboveLower, belowUpper, belowLower);
        }
    }

    /** Solutions of x * x - d * y * y = n. */
    private static final class Squares {
        private static final int NO_INDEX = -1;
        private static final int GREATEST_X = 1000000;
        private static final int GREATEST_STEPS = 1000;

        private final Steps steps = new Steps();
        private final Chain chain = new Chain();
        private int met;
        long x;
        long y;

        int countAll(int d, int n) {
            find(d, n, NO_INDEX);
            return met;
        }

        boolean find(int d, int n, int index) {
            long root = Steps.rootOf(d);
            met = 0;
            x = 0;
            for (y = 0; y <= GREATEST_Y; y++) {
                long square = d * y * y + n;
                goToRootOf(square);
                if (x * x == square) {
                    if (met == index) {
                        return true;
                    }
                    met++;
                }
                // About where the next root is, so that few steps are left to it.
                x += root;
            }
            return false;
        }

        private void goToRootOf(long square) {
            while (x > 0 && x * x > square) {
                x--;
            }
            while (x < GREATEST_X && (x + 1) * (x + 1) <= square) {
                x++;
            }
        }

        /** Finds the least one for n = 1 among the convergents of the root of d. */
        boolean findLeast(int d) {
            steps.begin(0, d, 1);
            chain.begin();
            for (int i = 1; i <= GREATEST_STEPS; i++) {
                chain.add(steps.whole());
                steps.advance();
                if (chain.isOver) {
                    return false;
                }
                // The bottom of the next surd is x * x - d * y * y, but for its sign that goes to and fro.
                if (steps.bottom == 1 && i % 2 == 0) {
                    x = chain.upper;
                    y = chain.lower;
                    return true;
                }
            }
            return false;
        }
    }

    /** The text, and what it says as terms. */
    private static final class Text {
        private static final int NOT_ALLOWED = 1;
        private static final int IS_ZERO = 2;
        private static final int MOST_DIGITS = 3;
        private static final char NONE = 0;

        private final char[] characters = new char[TEXT_SIZE];
        private final int[] terms = new int[TEXT_SIZE];
        int length;
        int termCount;
        int faultPlace;
        int faultReason;

        void append(char character) {
            if (length >= 0 && length < characters.length) {
                characters[length] = character;
                length++;
            }
        }

        private char characterAt(int place) {
            return place >= 0 && place < length && place < characters.length ? characters[place] : NONE;
        }

        private int digitAt(int place) {
            char character = characterAt(place);
            return character >= '0' && character <= '9' ? character - '0' : -1;
        }

        boolean hasFault() {
            return faultReason != 0;
        }

        int termAt(int index) {
            return index >= 0 && index < terms.length ? terms[index] : 0;
        }

        /** Reads the text up to its end or its first fault. */
        void read() {
            termCount = 0;
            faultPlace = 0;
            faultReason = 0;
            boolean isNegative = characterAt(0) == '-';
            int place = readNumber(isNegative ? 1 : 0, isNegative);
            for (int round = 0; round < TEXT_SIZE && faultReason == 0 && place < length; round++) {
                char due = termCount == 1 ? ';' : ',';
                if (characterAt(place) == due) {
                    place = readNumber(place + 1, false);
                } else {
                    setFault(place, NOT_ALLOWED);
                }
            }
        }

        /** Reads a number and tells the place behind it. */
        private int readNumber(int start, boolean isNegative) {
            int value = digitAt(start);
            int end = start + 1;
            if (value < 0) {
                setFault(start, NOT_ALLOWED);
                return end;
            }
            if (value == 0 && termCount > 0) {
                setFault(start, IS_ZERO);
                return end;
            }
            // Behind a 0 ahead no digit belongs to the number.
            while (value > 0 && end < start + MOST_DIGITS && digitAt(end) >= 0) {
                value = 10 * value + digitAt(end);
                end++;
            }
            addTerm(isNegative ? -value : value);
            return end;
        }

        private void setFault(int place, int reason) {
            faultPlace = place;
            faultReason = reason;
        }

        private void addTerm(int term) {
            if (termCount >= 0 && termCount < terms.length) {
                terms[termCount] = term;
                termCount++;
            }
        }

        void chainTerms(Chain chain) {
            chain.begin();
            for (int i = 0; i < termCount; i++) {
                chain.add(termAt(i));
            }
        }
    }
}
