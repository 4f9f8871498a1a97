import java.math.BigDecimal;
import java.math.BigInteger;
import java.math.MathContext;
import java.util.ArrayDeque;
import java.util.ArrayList;
import java.util.Comparator;
import java.util.Deque;
import java.util.HashMap;
import java.util.HashSet;
import java.util.List;
import java.util.Map;
import java.util.Set;
import java.util.regex.Matcher;
import java.util.regex.Pattern;

/**
 * The document again, by other ways than the program's: great numbers, long decimals, trying all
 * fractions, a pattern for the texts. The tests compare the two.
 */
final class Model {
    private static final long INVALID = -1000001;
    private static final long NOT_POSSIBLE = -1000002;
    private static final long LIMIT = -1000003;
    private static final long NOT_FOUND = -1000004;
    private static final BigInteger GREATEST = BigInteger.valueOf(9000000000000000L);
    private static final MathContext DIGITS = new MathContext(80);
    private static final Pattern TERMS = Pattern.compile(
            "-?(0|[1-9][0-9]{0,2})(;[1-9][0-9]{0,2}(,[1-9][0-9]{0,2})*)?");
    private static final Map<String, Surd> SURDS = new HashMap<>();

    private record State(int p, int d, int q, List<int[]> book) {
    }

    private final Deque<State> history = new ArrayDeque<>();
    private final StringBuilder text = new StringBuilder();
    private State now = new State(0, 2, 1, List.of());

    /** All that the document tells of one surd. */
    private static final class Surd {
        final BigDecimal value;
        final int[] terms = new int[400];
        final List<BigInteger[]> convergents;
        int lead = -1;
        int period = -1;
        final long[][] nearest = new long[201][];
        final long[][] below = new long[201][];
        final long[][] above = new long[201][];
        final int[] records = new int[201];

        Surd(int p, int d, int q) {
            value = BigDecimal.valueOf(d).sqrt(DIGITS).add(BigDecimal.valueOf(p)).divide(BigDecimal.valueOf(q), DIGITS);
            unfold(p, d, q);
            List<Long> all = new ArrayList<>();
            for (int term : terms) {
                all.add((long) term);
            }
            convergents = chain(all);
            tryAllFractions();
        }

        /** Each surd on the way is (a + b * root d) / c with c above 0 and no common divisor. */
        private void unfold(int p, int d, int q) {
            BigInteger[] at = inLowest(BigInteger.valueOf(p), BigInteger.ONE, BigInteger.valueOf(q));
            Map<List<BigInteger>, Integer> seen = new HashMap<>();
            for (int i = 0; i <= 400; i++) {
                Integer before = seen.putIfAbsent(List.of(at), i);
                if (before != null && lead < 0) {
                    lead = before;
                    period = i - before;
                }
                BigInteger term = floor(at, d);
                if (i < 400) {
                    terms[i] = term.intValueExact();
                }
                BigInteger rest = at[0].subtract(term.multiply(at[2]));
                BigInteger bottom = rest.multiply(rest).subtract(at[1].multiply(at[1]).multiply(BigInteger.valueOf(d)));
                at = inLowest(at[2].multiply(rest), at[2].multiply(at[1]).negate(), bottom);
            }
        }

        private static BigInteger[] inLowest(BigInteger a, BigInteger b, BigInteger c) {
            BigInteger divisor = a.gcd(b).gcd(c);
            if (c.signum() < 0) {
                divisor = divisor.negate();
            }
            return new BigInteger[] {a.divide(divisor), b.divide(divisor), c.divide(divisor)};
        }

        private static BigInteger floor(BigInteger[] at, int d) {
            BigInteger root = at[1].multiply(at[1]).multiply(BigInteger.valueOf(d)).sqrt();
            BigInteger top = at[0].add(at[1].signum() > 0 ? root : root.add(BigInteger.ONE).negate());
            BigInteger[] parts = top.divideAndRemainder(at[2]);
            return parts[1].signum() < 0 ? parts[0].subtract(BigInteger.ONE) : parts[0];
        }

        BigDecimal distance(long upper, long lower) {
            return BigDecimal.valueOf(upper).divide(BigDecimal.valueOf(lower), DIGITS).subtract(value);
        }

        private void tryAllFractions() {
            int met = 0;
            for (int lower = 1; lower <= 200; lower++) {
                long whole = value.multiply(BigDecimal.valueOf(lower)).setScale(0, java.math.RoundingMode.FLOOR).longValueExact();
                long[] under = {whole, lower};
                long[] over = {whole + 1, lower};
                below[lower] = nearer(under, below[lower - 1]);
                above[lower] = nearer(over, above[lower - 1]);
                nearest[lower] = nearer(over, nearer(under, nearest[lower - 1]));
                met += nearest[lower][1] == lower ? 1 : 0;
                records[lower] = met;
            }
        }

        private long[] nearer(long[] one, long[] other) {
            if (other == null) {
                return one;
            }
            // Equal fractions stay as they were found first, which is in lowest terms.
            if (one[0] * other[1] == other[0] * one[1]) {
                return other;
            }
            return distance(one[0], one[1]).abs().compareTo(distance(other[0], other[1]).abs()) < 0 ? one : other;
        }

        boolean hasConvergent(long upper, long lower) {
            for (BigInteger[] one : convergents) {
                if (one != null && one[0].equals(BigInteger.valueOf(upper)) && one[1].equals(BigInteger.valueOf(lower))) {
                    return true;
                }
            }
            return false;
        }
    }

    /** The fractions of the first terms; null from the first one on with a part that is too great. */
    private static List<BigInteger[]> chain(List<Long> terms) {
        List<BigInteger[]> fractions = new ArrayList<>();
        BigInteger[] ahead = {BigInteger.ZERO, BigInteger.ONE};
        BigInteger[] last = {BigInteger.ONE, BigInteger.ZERO};
        boolean over = false;
        for (long term : terms) {
            BigInteger[] next = new BigInteger[2];
            for (int i = 0; i < 2; i++) {
                next[i] = last[i].multiply(BigInteger.valueOf(term)).add(ahead[i]);
                over = over || next[i].abs().compareTo(GREATEST) > 0;
            }
            fractions.add(over ? null : next);
            ahead = last;
            last = next;
        }
        return fractions;
    }

    private Surd surd() {
        return SURDS.computeIfAbsent(now.p + " " + now.d + " " + now.q, key -> new Surd(now.p, now.d, now.q));
    }

    private void keep() {
        history.addLast(now);
        if (history.size() > 4) {
            history.removeFirst();
        }
    }

    private void set(int p, int d, int q, List<int[]> book) {
        now = new State(p, d, q, book);
        Surd surd = surd();
        List<int[]> sorted = new ArrayList<>(book);
        sorted.sort(Comparator.comparing((int[] one) -> surd.distance(one[0], one[1]).abs()));
        now = new State(p, d, q, List.copyOf(sorted));
    }

    private static boolean isOut(int number, int least, int greatest) {
        return number < least || number > greatest;
    }

    long surd(int p, int d, int q) {
        if (isOut(p, -99, 99) || isOut(d, 2, 999) || isOut(q, -99, 99) || q == 0) {
            return INVALID;
        }
        for (int i = 0; i * i <= d; i++) {
            if (i * i == d) {
                return NOT_POSSIBLE;
            }
        }
        keep();
        set(p, d, q, now.book);
        return 0;
    }

    long partOf(int what) {
        return isOut(what, 0, 2) ? INVALID : 1000 + (what == 0 ? now.p : what == 1 ? now.d : now.q);
    }

    long term(int index) {
        return isOut(index, 0, 399) ? INVALID : surd().terms[index] + 1000;
    }

    long again(int what) {
        if (isOut(what, 0, 4)) {
            return INVALID;
        }
        Surd surd = surd();
        if (surd.period < 0) {
            return LIMIT;
        }
        List<Integer> terms = new ArrayList<>();
        for (int i = surd.lead; i < surd.lead + surd.period; i++) {
            terms.add(surd.terms[i]);
        }
        Set<Integer> unlike = new HashSet<>(terms);
        int greatest = unlike.stream().max(Comparator.naturalOrder()).orElse(0);
        List<Integer> forth = terms.subList(0, terms.size() - 1);
        List<Integer> back = new ArrayList<>(forth);
        java.util.Collections.reverse(back);
        return new long[] {surd.lead, surd.period, greatest, unlike.size(), forth.equals(back) ? 1 : 0}[what];
    }

    long convergent(int index, int part) {
        if (isOut(index, 0, 399) || isOut(part, 0, 1)) {
            return INVALID;
        }
        return part(surd().convergents.get(index), part);
    }

    private static long part(BigInteger[] fraction, int part) {
        if (fraction == null) {
            return LIMIT;
        }
        return (part == 0 ? fraction[0].add(GREATEST) : fraction[1]).longValueExact();
    }

    long between(int index, int by, int part) {
        if (isOut(index, 2, 399) || isOut(part, 0, 1) || by < 1 || by >= surd().terms[index]) {
            return INVALID;
        }
        if (surd().convergents.get(index) == null) {
            return LIMIT;
        }
        List<Long> terms = new ArrayList<>();
        for (int i = 0; i < index; i++) {
            terms.add((long) surd().terms[i]);
        }
        terms.add((long) by);
        return part(chain(terms).get(index), part);
    }

    private static long shortPart(long[] fraction, int part) {
        return part == 0 ? fraction[0] + 1000000 : fraction[1];
    }

    long nearest(int bound, int part) {
        return isOut(bound, 1, 200) || isOut(part, 0, 1) ? INVALID : shortPart(surd().nearest[bound], part);
    }

    long beside(int bound, int above, int part) {
        if (isOut(bound, 1, 200) || isOut(above, 0, 1) || isOut(part, 0, 1)) {
            return INVALID;
        }
        return shortPart((above == 1 ? surd().above : surd().below)[bound], part);
    }

    long records(int bound) {
        return isOut(bound, 1, 200) ? INVALID : surd().records[bound];
    }

    private List<long[]> allSolutions(int n) {
        List<long[]> all = new ArrayList<>();
        for (long y = 0; y <= 5000; y++) {
            long square = now.d * y * y + n;
            long x = square < 0 ? 0 : Math.round(Math.sqrt(square));
            if (x * x == square) {
                all.add(new long[] {x, y});
            }
        }
        return all;
    }

    long solution(int n, int index, int part) {
        if (isOut(n, -60, 60) || n == 0 || index < 0 || isOut(part, 0, 1)) {
            return INVALID;
        }
        List<long[]> all = allSolutions(n);
        return index < all.size() ? all.get(index)[part] : NOT_FOUND;
    }

    long solutions(int n) {
        return isOut(n, -60, 60) || n == 0 ? INVALID : allSolutions(n).size();
    }

    /** The lower parts of the convergents of the root of d are tried, by great numbers without a bound. */
    long leastSolution(int part) {
        if (isOut(part, 0, 1)) {
            return INVALID;
        }
        BigInteger d = BigInteger.valueOf(now.d);
        BigInteger root = d.sqrt();
        BigInteger top = BigInteger.ZERO;
        BigInteger bottom = BigInteger.ONE;
        BigInteger x = BigInteger.ONE;
        BigInteger y = BigInteger.ZERO;
        BigInteger lastX = BigInteger.ZERO;
        BigInteger lastY = BigInteger.ONE;
        while (y.signum() == 0 || !x.multiply(x).subtract(d.multiply(y).multiply(y)).equals(BigInteger.ONE)) {
            BigInteger term = root.add(top).divide(bottom);
            BigInteger nextX = term.multiply(x).add(lastX);
            BigInteger nextY = term.multiply(y).add(lastY);
            lastX = x;
            lastY = y;
            x = nextX;
            y = nextY;
            top = term.multiply(bottom).subtract(top);
            bottom = d.subtract(top.multiply(top)).divide(bottom);
        }
        return x.compareTo(GREATEST) > 0 ? LIMIT : (part == 0 ? x : y).longValueExact();
    }

    private boolean hasFault() {
        return !TERMS.matcher(text).matches();
    }

    private List<Long> textTerms() {
        String[] numbers = text.toString().split("[;,]");
        List<Long> terms = new ArrayList<>();
        for (String number : numbers) {
            terms.add(Long.parseLong(number));
        }
        return terms;
    }

    private BigInteger[] textFraction() {
        List<BigInteger[]> fractions = chain(textTerms());
        return fractions.get(fractions.size() - 1);
    }

    private static boolean fitsBook(BigInteger[] fraction) {
        return fraction != null && fraction[0].abs().compareTo(BigInteger.valueOf(30000)) <= 0
                && fraction[1].compareTo(BigInteger.valueOf(200)) <= 0;
    }

    long note() {
        if (hasFault() || !fitsBook(textFraction())) {
            return NOT_POSSIBLE;
        }
        int[] fraction = {textFraction()[0].intValueExact(), textFraction()[1].intValueExact()};
        for (int[] one : now.book) {
            if (one[0] * fraction[1] == fraction[0] * one[1]) {
                return NOT_POSSIBLE;
            }
        }
        if (now.book.size() == 8) {
            return LIMIT;
        }
        keep();
        List<int[]> book = new ArrayList<>(now.book);
        book.add(fraction);
        set(now.p, now.d, now.q, book);
        return now.book.indexOf(fraction);
    }

    long strike(int place) {
        if (place < 0) {
            return INVALID;
        }
        if (place >= now.book.size()) {
            return NOT_POSSIBLE;
        }
        keep();
        List<int[]> book = new ArrayList<>(now.book);
        book.remove(place);
        set(now.p, now.d, now.q, book);
        return book.size();
    }

    long strikeAll() {
        keep();
        int before = now.book.size();
        set(now.p, now.d, now.q, List.of());
        return before;
    }

    long noteOf(int place, int what) {
        if (place < 0 || isOut(what, 0, 3)) {
            return INVALID;
        }
        if (place >= now.book.size()) {
            return NOT_FOUND;
        }
        int[] one = now.book.get(place);
        long isAbove = surd().distance(one[0], one[1]).signum() > 0 ? 1 : 0;
        long isConvergent = surd().hasConvergent(one[0], one[1]) ? 1 : 0;
        return new long[] {one[0] + 1000000, one[1], isAbove, isConvergent}[what];
    }

    long count(int what) {
        switch (what) {
            case 0: return now.book.size();
            case 1: return now.book.stream().filter(one -> surd().distance(one[0], one[1]).signum() > 0).count();
            case 2: return history.size();
            case 3: return text.length();
            default: return INVALID;
        }
    }

    long undo() {
        if (history.isEmpty()) {
            return NOT_POSSIBLE;
        }
        now = history.removeLast();
        return history.size();
    }

    long type(int character) {
        if (isOut(character, 32, 126)) {
            return INVALID;
        }
        if (text.length() == 40) {
            return LIMIT;
        }
        text.append((char) character);
        return text.length();
    }

    long clearText() {
        int before = text.length();
        text.setLength(0);
        return before;
    }

    /** The fault is where the text ceases to be the beginning of any good one. */
    long fault(int what) {
        if (isOut(what, 0, 1)) {
            return INVALID;
        }
        if (!hasFault()) {
            return NOT_FOUND;
        }
        int place = 0;
        while (place < text.length() && isBeginning(text.substring(0, place + 1))) {
            place++;
        }
        boolean isZero = place > 0 && place < text.length() && text.charAt(place) == '0'
                && ";,".indexOf(text.charAt(place - 1)) >= 0;
        return what == 0 ? place : isZero ? 2 : 1;
    }

    private static boolean isBeginning(String text) {
        Matcher matcher = TERMS.matcher(text);
        return matcher.matches() || TERMS.matcher(text + "1").matches();
    }

    long told(int what) {
        if (isOut(what, 0, 4)) {
            return INVALID;
        }
        if (hasFault()) {
            return NOT_POSSIBLE;
        }
        List<Long> terms = textTerms();
        BigInteger[] fraction = textFraction();
        if (what == 2) {
            return terms.size();
        }
        if (what == 3) {
            int shared = 0;
            while (shared < terms.size() && terms.get(shared) == surd().terms[shared]) {
                shared++;
            }
            return shared;
        }
        if (what == 4) {
            return fitsBook(fraction)
                    ? surd().distance(fraction[0].longValueExact(), fraction[1].longValueExact()).signum() > 0 ? 1 : 0
                    : LIMIT;
        }
        return part(fraction, what);
    }
}
