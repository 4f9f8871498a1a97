import java.util.function.LongSupplier;

/** Long runs of calls, the same ones every time, each answer compared with that of the model. */
public final class RandomRunsTest {
    private static final int CALLS = 512;
    private static final int[] ODD_NUMBERS = {
        Integer.MIN_VALUE, Integer.MIN_VALUE + 1, -1000001, -400, -201, -100, -61, -2, -1, 0, 1, 2, 3, 4, 5, 7, 8, 31, 32,
        40, 61, 100, 126, 127, 200, 201, 399, 400, 1000, Integer.MAX_VALUE - 1, Integer.MAX_VALUE,
    };

    private long seed;
    private int calls;
    private SurdFractions program;
    private Model model;
    private final StringBuilder run = new StringBuilder();

    private RandomRunsTest(long seed) {
        this.seed = seed;
    }

    public static void main(String[] args) {
        int runs = args.length > 0 ? Integer.parseInt(args[0]) : 150;
        for (int i = 1; i <= runs && !Due.isWrong(); i++) {
            new RandomRunsTest(i).goThrough(i);
        }
        Due.end();
    }

    private int upTo(int bound) {
        seed = seed * 6364136223846793005L + 1442695040888963407L;
        return (int) ((seed >>> 33) % bound);
    }

    private int from(int least, int greatest) {
        return least + upTo(greatest - least + 1);
    }

    /** Mostly from the range or just beyond it, now and then far out. */
    private int around(int least, int greatest) {
        int die = upTo(40);
        if (die == 0) {
            return ODD_NUMBERS[upTo(ODD_NUMBERS.length)];
        }
        if (die == 1) {
            return least - 1;
        }
        if (die == 2) {
            return greatest + 1;
        }
        return die == 3 ? least : die == 4 ? greatest : from(least, greatest);
    }

    private boolean call(String name, LongSupplier got, LongSupplier want) {
        if (calls >= CALLS || Due.isWrong()) {
            return false;
        }
        calls++;
        run.append(name).append('\n');
        Due.is(name, got, want.getAsLong());
        return !Due.isWrong();
    }

    private void goThrough(int number) {
        program = new SurdFractions();
        model = new Model();
        while (calls < CALLS && !Due.isWrong()) {
            any();
        }
        if (Due.isWrong()) {
            System.out.println("in run " + number + ", whose calls are\n" + run);
        }
    }

    private void any() {
        switch (upTo(16)) {
            case 0: changeSurd(); break;
            case 1: case 2: askTerms(); break;
            case 3: case 4: askConvergents(); break;
            case 5: case 6: askNear(); break;
            case 7: askSquares(); break;
            case 8: case 9: writeText(); break;
            case 10: addToBook(); break;
            case 11: askText(); break;
            case 12: case 13: askBook(); break;
            case 14: changeBook(); break;
            default: typeOne(); break;
        }
    }

    private void changeSurd() {
        int p = upTo(3) == 0 ? 0 : around(-99, 99);
        int d = upTo(3) == 0 ? from(2, 20) : around(2, 999);
        int q = upTo(2) == 0 ? from(-2, 2) : around(-99, 99);
        call("surd(" + p + ", " + d + ", " + q + ")", () -> program.surd(p, d, q), () -> model.surd(p, d, q));
    }

    private void askTerms() {
        int what = around(0, 2);
        int index = upTo(2) == 0 ? around(0, 12) : around(0, 399);
        int again = around(0, 4);
        call("partOf(" + what + ")", () -> program.partOf(what), () -> model.partOf(what));
        call("term(" + index + ")", () -> program.term(index), () -> model.term(index));
        call("again(" + again + ")", () -> program.again(again), () -> model.again(again));
    }

    private void askConvergents() {
        int index = upTo(4) == 0 ? around(0, 399) : around(0, 45);
        int part = around(0, 1);
        int at = upTo(4) == 0 ? around(2, 399) : around(2, 45);
        int by = upTo(4) == 0 ? around(1, 60) : around(1, 4);
        call("convergent(" + index + ", " + part + ")",
                () -> program.convergent(index, part), () -> model.convergent(index, part));
        call("between(" + at + ", " + by + ", " + part + ")",
                () -> program.between(at, by, part), () -> model.between(at, by, part));
    }

    private void askNear() {
        int bound = upTo(2) == 0 ? around(1, 12) : around(1, 200);
        int above = around(0, 1);
        int part = around(0, 1);
        call("nearest(" + bound + ", " + part + ")",
                () -> program.nearest(bound, part), () -> model.nearest(bound, part));
        call("beside(" + bound + ", " + above + ", " + part + ")",
                () -> program.beside(bound, above, part), () -> model.beside(bound, above, part));
        call("records(" + bound + ")", () -> program.records(bound), () -> model.records(bound));
    }

    private void askSquares() {
        int n = upTo(3) == 0 ? 1 : around(-60, 60);
        int index = around(0, upTo(2) == 0 ? 1 : 6);
        int part = around(0, 1);
        call("solution(" + n + ", " + index + ", " + part + ")",
                () -> program.solution(n, index, part), () -> model.solution(n, index, part));
        call("solutions(" + n + ")", () -> program.solutions(n), () -> model.solutions(n));
        call("leastSolution(" + part + ")", () -> program.leastSolution(part), () -> model.leastSolution(part));
    }

    private void typeAll(String text) {
        call("clearText()", () -> program.clearText(), () -> model.clearText());
        for (int i = 0; i < text.length(); i++) {
            char character = text.charAt(i);
            call("type(" + (int) character + ")", () -> program.type(character), () -> model.type(character));
        }
    }

    private void writeText() {
        String text;
        switch (upTo(5)) {
            case 0: text = longTerms(); break;
            case 1: text = spoiled(goodTerms()); break;
            case 2: text = termsOfSurd(); break;
            default: text = goodTerms(); break;
        }
        typeAll(text);
        askText();
    }

    private String goodTerms() {
        StringBuilder text = new StringBuilder(upTo(3) == 0 ? "-" : "");
        text.append(upTo(6) == 0 ? from(0, 999) : from(0, 4));
        int more = upTo(5);
        for (int i = 0; i < more; i++) {
            text.append(i == 0 ? ';' : ',').append(upTo(6) == 0 ? from(1, 999) : from(1, 4));
        }
        return text.toString();
    }

    private String longTerms() {
        StringBuilder text = new StringBuilder(upTo(2) == 0 ? "-" : "").append(from(0, 999));
        int greatest = new int[] {9, 99, 999}[upTo(3)];
        while (text.length() < 36) {
            text.append(text.indexOf(";") < 0 ? ';' : ',').append(from(greatest / 2, greatest));
        }
        return text.toString();
    }

    private String termsOfSurd() {
        StringBuilder text = new StringBuilder().append(model.term(0) - 1000);
        int more = upTo(6);
        for (int i = 1; i <= more; i++) {
            text.append(i == 1 ? ';' : ',').append(model.term(i) - 1000);
        }
        return text.toString();
    }

    private String spoiled(String text) {
        int place = upTo(text.length() + 1);
        String allowed = "0123456789;,- .a";
        String in = upTo(3) == 0 ? "" : String.valueOf(allowed.charAt(upTo(allowed.length())));
        int behind = upTo(2) == 0 ? place : Math.min(text.length(), place + 1);
        return text.substring(0, place) + in + text.substring(behind);
    }

    private void addToBook() {
        typeAll(upTo(3) == 0 ? termsOfSurd() : goodTerms());
        call("note()", () -> program.note(), () -> model.note());
    }

    private void askText() {
        int what = around(0, 1);
        call("fault(" + what + ")", () -> program.fault(what), () -> model.fault(what));
        for (int i = 0; i < 5; i++) {
            int told = around(0, 4);
            call("told(" + told + ")", () -> program.told(told), () -> model.told(told));
        }
    }

    private void askBook() {
        int what = around(0, 3);
        call("count(" + what + ")", () -> program.count(what), () -> model.count(what));
        for (int i = 0; i < 4; i++) {
            int place = around(0, 7);
            int of = around(0, 3);
            call("noteOf(" + place + ", " + of + ")", () -> program.noteOf(place, of), () -> model.noteOf(place, of));
        }
    }

    private void changeBook() {
        int place = around(0, 5);
        switch (upTo(8)) {
            case 0: call("strikeAll()", () -> program.strikeAll(), () -> model.strikeAll()); break;
            case 1: case 2: call("strike(" + place + ")", () -> program.strike(place), () -> model.strike(place)); break;
            case 3: case 4: case 5: call("undo()", () -> program.undo(), () -> model.undo()); break;
            default: call("note()", () -> program.note(), () -> model.note()); break;
        }
    }

    private void typeOne() {
        int character = upTo(2) == 0 ? around(32, 126) : around('0', '9');
        call("type(" + character + ")", () -> program.type(character), () -> model.type(character));
    }
}
