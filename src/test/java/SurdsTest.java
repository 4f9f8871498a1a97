/** Many surds, each asked for all that hangs on it alone, and compared with the model. */
public final class SurdsTest extends Calls {
    private final int p;
    private final int d;
    private final int q;
    private final String name;
    private final Model model = new Model();

    private SurdsTest(int p, int d, int q) {
        this.p = p;
        this.d = d;
        this.q = q;
        name = "surd(" + p + ", " + d + ", " + q + ")";
    }

    public static void main(String[] args) {
        int stride = args.length > 0 ? Integer.parseInt(args[0]) : 23456;
        plainRoots();
        // The stride shares no divisor with the number of all surds, so that p, d and q all wander.
        for (int i = 0; i < 199 * 998 * 199 && !Due.isWrong(); i += stride) {
            new SurdsTest(i % 199 - 99, i / 199 % 998 + 2, i / 199 / 998 - 99).compare();
        }
        edges();
        Due.end();
    }

    private static void plainRoots() {
        for (int d = 2; d <= 999; d++) {
            SurdsTest root = new SurdsTest(0, d, 1);
            if (root.isAccepted()) {
                root.askSquares();
                root.askAgain();
            }
        }
    }

    private static void edges() {
        int[] ends = {-99, -98, -1, 1, 98, 99};
        for (int p : ends) {
            for (int q : ends) {
                new SurdsTest(p, 2, q).compare();
                new SurdsTest(p, 962, q).compare();
                new SurdsTest(p, 999, q).compare();
            }
        }
    }

    private void compare() {
        if (!isAccepted()) {
            return;
        }
        askAgain();
        SurdFractions program = program();
        for (int i = 0; i < 400; i++) {
            Due.is(name + " term(" + i + ")", program.term(i), model.term(i));
        }
        for (int i = 0; i < 400; i += i < 90 ? 1 : 30) {
            askConvergent(i);
        }
        for (int i = 1; i <= 200; i++) {
            askNear(i);
        }
        askSquares();
    }

    private boolean isAccepted() {
        long answer = model.surd(p, d, q);
        Due.is(name, new SurdFractions().surd(p, d, q), answer);
        return answer == 0;
    }

    /** A new object for a few questions, as nothing is promised of one that was asked too often. */
    private SurdFractions program() {
        return of(p, d, q);
    }

    private void askAgain() {
        SurdFractions program = program();
        for (int i = 0; i < 5; i++) {
            Due.is(name + " again(" + i + ")", program.again(i), model.again(i));
        }
    }

    private void askConvergent(int index) {
        SurdFractions program = program();
        for (int part = 0; part < 2; part++) {
            Due.is(name + " convergent(" + index + ", " + part + ")",
                    program.convergent(index, part), model.convergent(index, part));
            int term = program.term(index) - 1000;
            for (int by = 0; by <= Math.min(term, 4); by++) {
                Due.is(name + " between(" + index + ", " + by + ", " + part + ")",
                        program.between(index, by, part), model.between(index, by, part));
            }
            Due.is(name + " between(" + index + ", " + (term - 1) + ", " + part + ")",
                    program.between(index, term - 1, part), model.between(index, term - 1, part));
        }
    }

    private void askNear(int bound) {
        SurdFractions program = program();
        Due.is(name + " records(" + bound + ")", program.records(bound), model.records(bound));
        for (int part = 0; part < 2; part++) {
            String end = bound + ", " + part + ")";
            Due.is(name + " nearest(" + end, program.nearest(bound, part), model.nearest(bound, part));
            Due.is(name + " beside below (" + end, program.beside(bound, 0, part), model.beside(bound, 0, part));
            Due.is(name + " beside above (" + end, program.beside(bound, 1, part), model.beside(bound, 1, part));
        }
    }

    private void askSquares() {
        SurdFractions program = program();
        for (int part = 0; part < 2; part++) {
            Due.is(name + " leastSolution(" + part + ")", program.leastSolution(part), model.leastSolution(part));
        }
        for (int n = -60; n <= 60; n += 1 + Math.abs(n) / 6) {
            askSolutions(n);
        }
    }

    private void askSolutions(int n) {
        SurdFractions program = program();
        long all = model.solutions(n);
        Due.is(name + " solutions(" + n + ")", program.solutions(n), all);
        for (int i = 0; n != 0 && i <= all; i++) {
            Due.is(name + " solution(" + n + ", " + i + ", 0)", program.solution(n, i, 0), model.solution(n, i, 0));
            Due.is(name + " solution(" + n + ", " + i + ", 1)", program.solution(n, i, 1), model.solution(n, i, 1));
        }
    }
}
