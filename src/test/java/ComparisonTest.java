import java.util.ArrayList;
import java.util.List;

/**
 * Compares the desk, call by call, with a second program that follows the document's words by recursion
 * and shares no way of working with it.
 */
public final class ComparisonTest {
    private static final int CALLS_OF_AN_OBJECT = 512;
    private static final int LONG_RUNS = 3000;
    private static final int LONGEST_LISTED = 4;

    private static int wrong = 0;
    private static int completeSeen = 0;
    private static int thirteenSeen = 0;
    private static int fourSeen = 0;
    // A fixed beginning, so that every run of the test makes the same calls.
    private static long state = 20261115L;

    public static void main(String[] args) {
        compareShortFormulas(new ArrayList<>());
        for (int run = 0; run < LONG_RUNS && wrong < 20; run++) {
            compareLongRun(run);
        }
        if (completeSeen < 10000 || thirteenSeen < 1000 || fourSeen < 1000) {
            wrong++;
            System.out.println("the runs are too tame: " + completeSeen + " complete formulas, "
                    + thirteenSeen + " of thirteen tokens, " + fourSeen + " of four quantifiers");
        }
        System.out.println(wrong == 0 ? "all answers are as due" : wrong + " answers are not as due");
        if (wrong != 0) {
            System.exit(1);
        }
    }

    private static void due(String what, Reference reference, long got, long want) {
        if (got != want) {
            wrong++;
            System.out.println(what + " with " + reference.tokens + " at hand answered " + got + ", due is " + want);
        }
    }

    private static long number(boolean answer) {
        return answer ? 1L : 0L;
    }

    private static int below(int bound) {
        state = state * 6364136223846793005L + 1442695040888963407L;
        return (int) ((state >>> 33) % bound);
    }

    /** Every list of tokens that can be fed, up to a length, and every token offered after it. */
    private static void compareShortFormulas(List<Integer> tokens) {
        for (int next = -1; next <= 26 && wrong < 20; next++) {
            QuantifierDesk desk = new QuantifierDesk();
            Reference reference = new Reference();
            for (int token : tokens) {
                desk.feed(token);
                reference.feed(token);
            }
            int want = reference.feed(next);
            due("feed(" + next + ")", reference, desk.feed(next), want);
            if (want > 0) {
                compareQueries(desk, reference);
                if (want < LONGEST_LISTED) {
                    List<Integer> longer = new ArrayList<>(tokens);
                    longer.add(next);
                    compareShortFormulas(longer);
                }
            }
        }
    }

    private static void compareQueries(QuantifierDesk desk, Reference reference) {
        due("complete()", reference, number(desk.complete()), number(reference.complete()));
        due("models()", reference, desk.models(), reference.models());
        due("valid()", reference, number(desk.valid()), number(reference.valid()));
        for (int i = -1; i <= 64; i++) {
            due("holds(" + i + ")", reference, number(desk.holds(i)), number(reference.holds(i)));
        }
        for (int b = -1; b <= 6; b++) {
            due("depends(" + b + ")", reference, number(desk.depends(b)), number(reference.depends(b)));
        }
    }

    private static void compareLongRun(int run) {
        QuantifierDesk desk = new QuantifierDesk();
        Reference reference = new Reference();
        for (int call = 0; call < CALLS_OF_AN_OBJECT; call++) {
            int kind = below(100);
            if (kind < 52) {
                int token = anyToken(run, reference);
                due("feed(" + token + ")", reference, desk.feed(token), reference.feed(token));
            } else if (kind < 57) {
                due("back()", reference, desk.back(), reference.back());
            } else if (kind < 60 || reference.tokens.size() == 13 && kind < 70) {
                desk.clear();
                reference.tokens.clear();
            } else {
                compareOneQuery(kind % 11, desk, reference);
            }
            countWhatIsSeen(reference);
        }
    }

    private static void countWhatIsSeen(Reference reference) {
        boolean complete = reference.complete();
        completeSeen += complete ? 1 : 0;
        thirteenSeen += complete && reference.tokens.size() == 13 ? 1 : 0;
        fourSeen += complete && reference.quantifiers() == 4 ? 1 : 0;
    }

    /** Runs lean to different sides, so that deep, wide and wrong formulas all come about. */
    private static int anyToken(int run, Reference reference) {
        int kind = below(20);
        if (kind == 0) {
            return below(40) - 7;
        }
        if (kind < 4) {
            return 6 + below(20);
        }
        int place = reference.placeDepth();
        if (kind < 4 + run % 8 && place > 0) {
            int v = below(place);
            return below(2) == 0 ? 6 + v : 10 + 4 * v + below(place);
        }
        return below(6);
    }

    private static void compareOneQuery(int kind, QuantifierDesk desk, Reference reference) {
        int i = below(70) - 3;
        int b = below(9) - 1;
        int k = below(17) - 2;
        switch (kind) {
            case 0 -> due("length()", reference, desk.length(), reference.tokens.size());
            case 1 -> due("token(" + k + ")", reference, desk.token(k), reference.token(k));
            case 2 -> due("complete()", reference, number(desk.complete()), number(reference.complete()));
            case 3 -> due("holds(" + i + ")", reference, number(desk.holds(i)), number(reference.holds(i)));
            case 4 -> due("models()", reference, desk.models(), reference.models());
            case 5 -> due("modelFrom(" + i + ")", reference, desk.modelFrom(i), reference.modelFrom(i));
            case 6 -> due("valid()", reference, number(desk.valid()), number(reference.valid()));
            case 7 -> due("depends(" + b + ")", reference, number(desk.depends(b)), number(reference.depends(b)));
            case 8 -> due("keep()", reference, number(desk.keep()), number(reference.keep()));
            case 9 -> due("impliesKept()", reference, number(desk.impliesKept()), number(reference.impliesKept()));
            default -> due("agreeing()", reference, desk.agreeing(), reference.agreeing());
        }
    }

    /** The document's words, one interpretation and one choice of things at a time. */
    private static final class Reference {
        private final List<Integer> tokens = new ArrayList<>();
        private List<Integer> kept = null;
        private int next;
        private int depthWhereItStopped;

        /** Reads one formula from the place next; false when the tokens end before it does. */
        private boolean read(int around) {
            if (next == tokens.size()) {
                depthWhereItStopped = around;
                return false;
            }
            int token = tokens.get(next++);
            if (token == 0) {
                return read(around);
            }
            if (token <= 3) {
                return read(around) && read(around);
            }
            return token > 5 || read(around + 1);
        }

        private boolean complete() {
            next = 0;
            return read(0);
        }

        /** The number of quantifiers around the place of the next token; 0 when the formula is complete. */
        private int placeDepth() {
            return complete() ? 0 : depthWhereItStopped;
        }

        private int quantifiers() {
            return (int) tokens.stream().filter(token -> token == 4 || token == 5).count();
        }

        private int feed(int token) {
            if (tokens.size() == 13 || complete() || (token == 4 || token == 5) && quantifiers() == 4) {
                return -2;
            }
            if (token < 0 || token > 25) {
                return -1;
            }
            int around = placeDepth();
            if (token >= 6 && token <= 9 && token - 6 >= around) {
                return -1;
            }
            if (token >= 10 && ((token - 10) / 4 >= around || (token - 10) % 4 >= around)) {
                return -1;
            }
            tokens.add(token);
            return tokens.size();
        }

        private int back() {
            return tokens.isEmpty() ? -1 : tokens.remove(tokens.size() - 1);
        }

        private int token(int k) {
            return k < 0 || k >= tokens.size() ? -1 : tokens.get(k);
        }

        private boolean isTrue(List<Integer> formula, int i) {
            next = 0;
            return value(formula, i, new ArrayList<>());
        }

        private boolean value(List<Integer> formula, int i, List<Integer> things) {
            int token = formula.get(next++);
            if (token == 0) {
                return !value(formula, i, things);
            }
            if (token <= 3) {
                boolean f = value(formula, i, things);
                boolean g = value(formula, i, things);
                return token == 1 ? f && g : token == 2 ? f || g : !(f && !g);
            }
            if (token <= 5) {
                int inside = next;
                boolean forZero = valueWith(formula, i, things, 0);
                next = inside;
                boolean forOne = valueWith(formula, i, things, 1);
                return token == 4 ? forZero && forOne : forZero || forOne;
            }
            if (token <= 9) {
                int x = things.get(token - 6);
                return (i >> x & 1) == 1;
            }
            int x = things.get((token - 10) / 4);
            int y = things.get((token - 10) % 4);
            return (i >> 2 + 2 * x + y & 1) == 1;
        }

        private boolean valueWith(List<Integer> formula, int i, List<Integer> things, int thing) {
            List<Integer> more = new ArrayList<>(things);
            more.add(thing);
            return value(formula, i, more);
        }

        private boolean holds(int i) {
            return i >= 0 && i <= 63 && complete() && isTrue(tokens, i);
        }

        private int models() {
            if (!complete()) {
                return -1;
            }
            int found = 0;
            for (int i = 0; i < 64; i++) {
                found += holds(i) ? 1 : 0;
            }
            return found;
        }

        private int modelFrom(int i) {
            if (i < 0) {
                return -1;
            }
            for (int j = i; j < 64; j++) {
                if (holds(j)) {
                    return j;
                }
            }
            return -1;
        }

        private boolean valid() {
            return models() == 64;
        }

        private boolean depends(int b) {
            if (b < 0 || b > 5) {
                return false;
            }
            for (int i = 0; i < 64; i++) {
                if (holds(i) != holds(i ^ 1 << b)) {
                    return true;
                }
            }
            return false;
        }

        private boolean keep() {
            if (!complete()) {
                return false;
            }
            kept = new ArrayList<>(tokens);
            return true;
        }

        private boolean impliesKept() {
            if (kept == null || !complete()) {
                return false;
            }
            for (int i = 0; i < 64; i++) {
                if (holds(i) && !isTrue(kept, i)) {
                    return false;
                }
            }
            return true;
        }

        private int agreeing() {
            if (kept == null || !complete()) {
                return -1;
            }
            int found = 0;
            for (int i = 0; i < 64; i++) {
                found += holds(i) == isTrue(kept, i) ? 1 : 0;
            }
            return found;
        }
    }
}
