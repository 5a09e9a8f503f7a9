import java.util.TreeMap;
import java.util.function.IntPredicate;

/**
 * One test for each boundary case that a sentence of the document names: too small, too large, empty, full, past the
 * end, refused. A failing answer is printed with its promise and the words that it breaks.
 */
public final class BoundariesTest {
    private static final int NOT = 0;
    private static final int AND = 1;
    private static final int OR = 2;
    private static final int IF = 3;
    private static final int ALL = 4;
    private static final int SOME = 5;
    private static final int P0 = 6;
    private static final int P1 = 7;
    private static final int P2 = 8;
    private static final int P3 = 9;

    private static final int BAD = QuantifierDesk.BAD;
    private static final int FULL = QuantifierDesk.FULL;
    private static final int NONE = QuantifierDesk.NONE;

    private static final int PROMISES = 15;

    private static final int[] NOTHING = {};
    private static final int[] ALL_P = {ALL, P0};
    private static final int[] SOME_P = {SOME, P0};
    private static final int[] NEVER = {SOME, AND, P0, NOT, P0};
    private static final int[] ALWAYS = {ALL, IF, P0, P0};
    private static final int[] ONLY_IN_0 = {ALL, ALL, NOT, OR, P0, r(0, 1)};
    private static final int[] ONLY_IN_63 = {ALL, ALL, AND, P0, r(0, 1)};
    private static final int[] ALL_BUT_0 = {SOME, SOME, OR, P0, r(0, 1)};
    private static final int[] ALL_BUT_63 = {NOT, ALL, ALL, AND, P0, r(0, 1)};
    private static final int[] THIRTEEN_NOTS = {NOT, NOT, NOT, NOT, NOT, NOT, NOT, NOT, NOT, NOT, NOT, NOT, NOT};
    /** Thirteen tokens and complete; true where ALL P is. */
    private static final int[] THIRTEEN_WHOLE = {AND, AND, ALL, P0, SOME, P0, IF, ALL, P0, NOT, NOT, SOME, P0};
    /** Each is one token short of a whole formula, or more. */
    private static final int[][] INCOMPLETE = {
        NOTHING, {NOT}, {ALL}, {SOME}, {AND}, {AND, ALL, P0}, {OR, ALL, P0}, {IF, ALL, P0},
        {ALL, IF, P0}, {ALL, OR, P0, NOT}, {ALL, SOME, ALL, SOME}, THIRTEEN_NOTS
    };

    /** Besides the next numbers: some that a mask, a shift or a sum that wraps would bring back inside. */
    private static final int[] NO_INTERPRETATIONS = {
        -1, 64, -2, 65, -63, -64, -65, 127, 128, 256, 1 << 16,
        Integer.MAX_VALUE, Integer.MIN_VALUE, Integer.MIN_VALUE + 1
    };
    private static final int[] NO_BITS = {
        -1, 6, -2, 7, 8, 31, 32, 33, 37, 64, 69, -27, -32, -59, -64, 256, Integer.MAX_VALUE, Integer.MIN_VALUE
    };
    private static final int[] NO_TOKENS = {
        -1, 26, -2, 27, 32, 36, -26, 255, 256, 260, 1 << 16, Integer.MAX_VALUE, Integer.MAX_VALUE - 1,
        Integer.MIN_VALUE, Integer.MIN_VALUE + 4, Integer.MIN_VALUE + 6
    };

    private static final TreeMap<Integer, Integer> testsOfPromise = new TreeMap<>();
    private static String current = "";
    private static int checks = 0;
    private static int wrong = 0;

    public static void main(String[] args) {
        terms();
        newObject();
        feed();
        backAndClear();
        lengthTokenComplete();
        holdsAndModels();
        modelFromAndValid();
        depends();
        kept();
        everyPromiseHasATest();
        int tests = 0;
        for (int number : testsOfPromise.values()) {
            tests += number;
        }
        System.out.println(tests + " boundaries, " + checks + " answers, " + wrong + " not as due");
        if (wrong != 0) {
            System.exit(1);
        }
    }

    /** Runs a test of a promise; 0 stands for what the document says before its promises. */
    private static void boundary(int promise, String words, Runnable test) {
        current = (promise == 0 ? "terms" : "promise " + promise) + ", " + words;
        int before = checks;
        test.run();
        if (checks == before) {
            wrong++;
            System.out.println(current + ": the test asked nothing");
        }
        testsOfPromise.merge(promise, 1, Integer::sum);
    }

    private static void everyPromiseHasATest() {
        for (int promise = 0; promise <= PROMISES; promise++) {
            if (!testsOfPromise.containsKey(promise)) {
                wrong++;
                System.out.println("promise " + promise + " has no boundary test");
            }
        }
    }

    private static void due(String call, long got, long want) {
        checks++;
        if (got != want) {
            wrong++;
            System.out.println(current + ": " + call + " answered " + got + ", due is " + want);
        }
    }

    private static void due(String call, boolean got, boolean want) {
        due(call, got ? 1L : 0L, want ? 1L : 0L);
    }

    private static int r(int v, int w) {
        return 10 + 4 * v + w;
    }

    private static boolean bit(int i, int b) {
        return ((i >> b) & 1) == 1;
    }

    private static void feedAll(QuantifierDesk x, int... tokens) {
        for (int token : tokens) {
            int want = x.length() + 1;
            due("feed(" + token + ")", x.feed(token), want);
        }
    }

    private static QuantifierDesk desk(int... tokens) {
        QuantifierDesk x = new QuantifierDesk();
        feedAll(x, tokens);
        return x;
    }

    private static QuantifierDesk deskKeeping(int[] kept, int... tokens) {
        QuantifierDesk x = desk(kept);
        due("keep()", x.keep(), true);
        refill(x, tokens);
        return x;
    }

    private static void refill(QuantifierDesk x, int... tokens) {
        x.clear();
        feedAll(x, tokens);
    }

    private static void dueTokens(QuantifierDesk x, int... tokens) {
        due("length()", x.length(), tokens.length);
        for (int k = 0; k < tokens.length; k++) {
            due("token(" + k + ")", x.token(k), tokens[k]);
        }
        due("token(" + tokens.length + ")", x.token(tokens.length), NONE);
    }

    private static void dueModels(QuantifierDesk x, IntPredicate model) {
        for (int i = 0; i < 64; i++) {
            due("holds(" + i + ")", x.holds(i), model.test(i));
        }
    }

    // What the document says before its promises.

    private static void terms() {
        boundary(0, "an object is used for at most 512 calls", BoundariesTest::callsUpToThe512th);
        boundary(0, "an interpretation is a number from 0 to 63", BoundariesTest::firstAndLastInterpretation);
        boundary(0, "P(x) is bit x", BoundariesTest::bitsOfP);
        boundary(0, "R(x, y) is bit 2 + 2 * x + y", BoundariesTest::bitsOfR);
        boundary(0, "IF is true unless f is true and g is false", BoundariesTest::ifInItsFourCases);
        boundary(0, "ALL is true for both things, SOME for at least one", BoundariesTest::noneOneAndBothThings);
        boundary(0, "quantifiers are counted from the outermost, number 0", BoundariesTest::countedFromTheOutermost);
        boundary(0, "only quantifiers around the atom are counted", BoundariesTest::onlyThoseAround);
        boundary(0, "at most 13 tokens, whatever stands last", BoundariesTest::thirteenOfEachShape);
        boundary(0, "13 tokens and four quantifiers, both reached", BoundariesTest::thirteenWithFourQuantifiers);
    }

    private static void callsUpToThe512th() {
        QuantifierDesk x = new QuantifierDesk();
        int calls = 0;
        for (int k = 0; k < 102; k++) {
            due("feed", x.feed(ALL), 1);
            due("feed", x.feed(P0), 2);
            due("keep", x.keep(), true);
            due("back", x.back(), P0);
            due("back", x.back(), ALL);
            calls += 5;
        }
        due("feed as call " + (calls + 1), x.feed(ALL), 1);
        due("feed as call " + (calls + 2), x.feed(P0), 2);
        due("calls", calls + 2, 512);

        QuantifierDesk y = desk(THIRTEEN_WHOLE);
        // Each of the 13 tokens was fed after one call of length().
        for (int call = 27; call < 512; call++) {
            due("models as call " + call, y.models(), 16);
        }
        due("holds as call 512", y.holds(63), true);
    }

    private static void firstAndLastInterpretation() {
        dueModels(desk(ONLY_IN_0), i -> i == 0);
        dueModels(desk(ONLY_IN_63), i -> i == 63);
        dueModels(desk(ALL_BUT_0), i -> i != 0);
        dueModels(desk(ALL_BUT_63), i -> i != 63);
    }

    private static void bitsOfP() {
        dueModels(desk(SOME_P), i -> bit(i, 0) || bit(i, 1));
        // The one thing that has P goes to itself: so P and the things of R must be told apart together.
        dueModels(desk(SOME, AND, P0, r(0, 0)), i -> bit(i, 0) && bit(i, 2) || bit(i, 1) && bit(i, 5));
    }

    private static void bitsOfR() {
        dueModels(desk(SOME, SOME, AND, P0, AND, NOT, P1, r(0, 1)),
                i -> bit(i, 0) && !bit(i, 1) && bit(i, 3) || bit(i, 1) && !bit(i, 0) && bit(i, 4));
        dueModels(desk(SOME, SOME, AND, P0, AND, NOT, P1, r(1, 0)),
                i -> bit(i, 0) && !bit(i, 1) && bit(i, 4) || bit(i, 1) && !bit(i, 0) && bit(i, 3));
        dueModels(desk(ALL, r(0, 0)), i -> bit(i, 2) && bit(i, 5));
    }

    private static void ifInItsFourCases() {
        QuantifierDesk x = desk(IF, ALL, P0, ALL, r(0, 0));
        due("false, false: holds(0)", x.holds(0), true);
        due("false, true: holds(36)", x.holds(36), true);
        due("true, false: holds(3)", x.holds(3), false);
        due("true, true: holds(39)", x.holds(39), true);
    }

    private static void noneOneAndBothThings() {
        QuantifierDesk all = desk(ALL_P);
        QuantifierDesk some = desk(SOME_P);
        for (int i = 0; i < 4; i++) {
            due("ALL P: holds(" + i + ")", all.holds(i), i == 3);
            due("SOME P: holds(" + i + ")", some.holds(i), i != 0);
        }
    }

    private static void countedFromTheOutermost() {
        // ALL number v among SOMEs: P(v) must hold for both things at v only, so each number is told from the others.
        for (int v = 0; v < 4; v++) {
            for (int all = 0; all < 4; all++) {
                QuantifierDesk x = new QuantifierDesk();
                for (int k = 0; k < 4; k++) {
                    feedAll(x, k == all ? ALL : SOME);
                }
                feedAll(x, P0 + v);
                due("models() of P(" + v + ") with ALL number " + all, x.models(), v == all ? 16 : 48);
            }
        }
    }

    private static void onlyThoseAround() {
        // The second SOME is the second in the text, but number 0 around its atom.
        dueModels(desk(AND, ALL, P0, SOME, r(0, 0)), i -> bit(i, 0) && bit(i, 1) && (bit(i, 2) || bit(i, 5)));
        dueModels(desk(ALL, OR, SOME, r(0, 1), ALL, r(1, 0)),
                i -> (bit(i, 2) || bit(i, 3) || bit(i, 2) && bit(i, 4))
                        && (bit(i, 4) || bit(i, 5) || bit(i, 3) && bit(i, 5)));
        // Taken back and written anew, a place is counted by what stands around it now.
        QuantifierDesk x = desk(ALL, SOME, P1);
        due("back()", x.back(), P1);
        due("back()", x.back(), SOME);
        due("feed(P1) with one around", x.feed(P1), BAD);
        feedAll(x, P0);
        due("models()", x.models(), 16);
    }

    private static void thirteenOfEachShape() {
        due("NOT", desk(afterNots(10, SOME, NOT, P0)).models(), 48);
        due("SOME", desk(afterNots(10, ALL, SOME, r(0, 1))).models(), 36);
        due("ALL", desk(afterNots(10, SOME, ALL, r(0, 1))).models(), 28);
        // Nine NOTs: those in which neither thing makes the part below SOME true.
        due("AND", desk(afterNots(9, SOME, AND, P0, r(0, 0))).models(), 36);
        due("OR", desk(afterNots(9, SOME, OR, P0, r(0, 0))).models(), 4);
        due("IF", desk(afterNots(9, SOME, IF, P0, r(0, 0))).models(), 4);
        due("pairs to the left", desk(NOT, ALL, AND, AND, AND, AND, AND, P0, P0, P0, P0, P0, P0).models(), 48);
        due("pairs to the right", desk(NOT, ALL, AND, P0, AND, P0, AND, P0, AND, P0, AND, P0, P0).models(), 48);
    }

    private static void thirteenWithFourQuantifiers() {
        due("nested", desk(afterNots(8, ALL, SOME, ALL, SOME, r(0, 3))).models(), 36);
        // Four side by side, each number 0 around its own atom.
        dueModels(desk(NOT, NOT, OR, ALL, P0, AND, ALL, r(0, 0), AND, SOME, P0, SOME, r(0, 0)),
                i -> bit(i, 0) && bit(i, 1) || bit(i, 2) && bit(i, 5) && (bit(i, 0) || bit(i, 1)));
    }

    private static int[] afterNots(int nots, int... formula) {
        int[] tokens = new int[nots + formula.length];
        System.arraycopy(formula, 0, tokens, nots, formula.length);
        due("tokens", tokens.length, 13);
        return tokens;
    }

    // Promise 1.

    private static void newObject() {
        boundary(1, "no tokens", () -> {
            QuantifierDesk x = new QuantifierDesk();
            dueTokens(x);
            due("complete()", x.complete(), false);
            due("back()", x.back(), NONE);
        });
        boundary(1, "nothing kept", () -> {
            QuantifierDesk x = desk(NEVER);
            due("impliesKept()", x.impliesKept(), false);
            due("agreeing()", x.agreeing(), NONE);
        });
        boundary(1, "nothing of another object's", () -> {
            QuantifierDesk other = desk(NEVER);
            due("keep()", other.keep(), true);
            QuantifierDesk x = new QuantifierDesk();
            dueTokens(x);
            feedAll(x, NEVER);
            due("agreeing()", x.agreeing(), NONE);
            due("agreeing() of the other", other.agreeing(), 64);
        });
    }

    // Promise 2.

    private static void feed() {
        boundary(2, "FULL when there are 13 tokens", BoundariesTest::feedAtThirteen);
        boundary(2, "FULL when the formula is complete", BoundariesTest::feedAfterComplete);
        boundary(2, "FULL for ALL or SOME when four such are there", BoundariesTest::feedFifthQuantifier);
        boundary(2, "four such are there, around the place or not", BoundariesTest::feedFifthQuantifierBeside);
        boundary(2, "BAD when token is not 0 .. 25", BoundariesTest::feedNoToken);
        boundary(2, "0 and 25 are tokens", BoundariesTest::feedLeastAndGreatest);
        boundary(2, "BAD for a variable of P not less than the number around", BoundariesTest::feedUnboundP);
        boundary(2, "BAD for a variable of R not less than the number around", BoundariesTest::feedUnboundR);
        boundary(2, "the number around the place, not in the formula", BoundariesTest::feedBesideQuantifiers);
        boundary(2, "the first that applies: 13 tokens before BAD", BoundariesTest::thirteenBeforeBad);
        boundary(2, "the first that applies: complete before BAD", BoundariesTest::completeBeforeBad);
        boundary(2, "four such only refuse ALL and SOME", BoundariesTest::fourRefuseOnlyQuantifiers);
        boundary(2, "the number of tokens now", BoundariesTest::feedCounts);
        boundary(2, "a refused token is not appended", BoundariesTest::refusedFeedChangesNothing);
    }

    private static void feedAtThirteen() {
        QuantifierDesk x = new QuantifierDesk();
        for (int k = 1; k <= 12; k++) {
            due("feed(NOT)", x.feed(NOT), k);
        }
        due("feed(NOT) with 12", x.feed(NOT), 13);
        for (int token = 0; token <= 25; token++) {
            due("feed(" + token + ") with 13", x.feed(token), FULL);
        }
        due("back()", x.back(), NOT);
        due("feed(AND) with 12 again", x.feed(AND), 13);
        due("feed(AND) with 13 again", x.feed(AND), FULL);

        QuantifierDesk whole = desk(THIRTEEN_WHOLE);
        due("feed(NOT) with 13, complete", whole.feed(NOT), FULL);

        QuantifierDesk wide = desk(AND, OR, IF, AND, OR, IF, AND, OR, IF, AND, OR, IF, AND);
        due("feed(ALL) with 14 formulas wanted", wide.feed(ALL), FULL);
    }

    private static void feedAfterComplete() {
        int[][] wholes = {ALL_P, SOME_P, {NOT, ALL, P0}, {AND, ALL, P0, SOME, P0}, ALWAYS, NEVER};
        for (int[] whole : wholes) {
            QuantifierDesk x = desk(whole);
            for (int token = 0; token <= 25; token++) {
                due("feed(" + token + ")", x.feed(token), FULL);
            }
            int last = whole[whole.length - 1];
            due("back()", x.back(), last);
            due("feed(" + last + ") when no longer complete", x.feed(last), whole.length);
        }
    }

    private static void feedFifthQuantifier() {
        for (int kinds = 0; kinds < 16; kinds++) {
            QuantifierDesk x = new QuantifierDesk();
            for (int k = 0; k < 4; k++) {
                due("quantifier " + k, x.feed(bit(kinds, k) ? ALL : SOME), k + 1);
            }
            due("a fifth ALL", x.feed(ALL), FULL);
            due("a fifth SOME", x.feed(SOME), FULL);
            due("back()", x.back(), bit(kinds, 3) ? ALL : SOME);
            due("a fourth ALL again", x.feed(ALL), 4);
            due("a fifth SOME again", x.feed(SOME), FULL);
            x.clear();
            due("a first SOME", x.feed(SOME), 1);
        }
    }

    private static void feedFifthQuantifierBeside() {
        QuantifierDesk x = desk(AND, ALL, P0, AND, SOME, P0, AND, SOME, P0, AND);
        feedAll(x, ALL, P0);
        due("a fifth ALL", x.feed(ALL), FULL);
        due("a fifth SOME", x.feed(SOME), FULL);
        due("back()", x.back(), P0);
        due("a fifth ALL inside the fourth", x.feed(ALL), FULL);
        due("back()", x.back(), ALL);
        due("a fourth SOME", x.feed(SOME), 11);

        QuantifierDesk twoAndTwo = desk(OR, ALL, SOME, r(0, 1), ALL, SOME);
        due("a fifth ALL inside two", twoAndTwo.feed(ALL), FULL);
        due("a fifth SOME inside two", twoAndTwo.feed(SOME), FULL);
        due("R(1, 1) inside two", twoAndTwo.feed(r(1, 1)), 7);
    }

    private static void feedNoToken() {
        int[][] places = {NOTHING, {NOT}, {AND, ALL, P0}, {ALL, ALL, ALL, ALL}};
        for (int[] place : places) {
            QuantifierDesk x = desk(place);
            for (int token : NO_TOKENS) {
                due("feed(" + token + ")", x.feed(token), BAD);
            }
            dueTokens(x, place);
        }
    }

    private static void feedLeastAndGreatest() {
        due("feed(0)", new QuantifierDesk().feed(0), 1);
        due("feed(25)", desk(ALL, ALL, ALL, ALL).feed(25), 5);
        due("feed(25) inside three", desk(ALL, ALL, ALL).feed(25), BAD);
        // The last of each kind of token and the first of the next.
        due("feed(5)", new QuantifierDesk().feed(5), 1);
        due("feed(6)", new QuantifierDesk().feed(6), BAD);
        due("feed(9) inside four", desk(ALL, ALL, ALL, ALL).feed(9), 5);
        due("feed(9) inside three", desk(ALL, ALL, ALL).feed(9), BAD);
        due("feed(10) inside one", desk(ALL).feed(10), 2);
    }

    private static void feedUnboundP() {
        for (int around = 0; around <= 4; around++) {
            for (int v = 0; v < 4; v++) {
                QuantifierDesk x = insideQuantifiers(around);
                due("feed(P(" + v + ")) inside " + around, x.feed(P0 + v), v < around ? around + 1 : BAD);
            }
        }
    }

    private static void feedUnboundR() {
        for (int around = 0; around <= 4; around++) {
            for (int v = 0; v < 4; v++) {
                for (int w = 0; w < 4; w++) {
                    QuantifierDesk x = insideQuantifiers(around);
                    boolean bound = v < around && w < around;
                    due("feed(R(" + v + ", " + w + ")) inside " + around, x.feed(r(v, w)), bound ? around + 1 : BAD);
                }
            }
        }
    }

    private static QuantifierDesk insideQuantifiers(int around) {
        QuantifierDesk x = new QuantifierDesk();
        for (int k = 0; k < around; k++) {
            feedAll(x, k % 2 == 0 ? ALL : SOME);
        }
        return x;
    }

    private static void feedBesideQuantifiers() {
        QuantifierDesk x = desk(AND, ALL, SOME, r(0, 1));
        due("feed(P0) beside two", x.feed(P0), BAD);
        due("feed(R(0, 0)) beside two", x.feed(r(0, 0)), BAD);
        feedAll(x, ALL, IF, SOME, P1);
        due("feed(P1) beside the inner one", x.feed(P1), BAD);
        due("feed(R(0, 1)) beside the inner one", x.feed(r(0, 1)), BAD);
        due("feed(R(1, 0)) beside the inner one", x.feed(r(1, 0)), BAD);
        due("feed(P0) inside the outer one", x.feed(P0), 9);
        due("complete()", x.complete(), true);

        // NOT and the first part of AND, OR and IF add none around.
        QuantifierDesk y = desk(NOT, AND, OR, IF);
        due("feed(P0) inside no quantifier", y.feed(P0), BAD);
        feedAll(y, SOME, NOT, AND);
        due("feed(P1) inside one", y.feed(P1), BAD);
        feedAll(y, P0);
        due("feed(P1) in the second part", y.feed(P1), BAD);
        feedAll(y, P0);
        due("feed(P0) outside again", y.feed(P0), BAD);

        QuantifierDesk z = desk(ALL, ALL, AND, ALL, AND, ALL, P3);
        due("feed(P3) inside three", z.feed(P3), BAD);
        feedAll(z, P2);
        due("feed(P2) inside two", z.feed(P2), BAD);
        feedAll(z, P1);
        due("complete()", z.complete(), true);
    }

    private static void thirteenBeforeBad() {
        QuantifierDesk x = desk(THIRTEEN_NOTS);
        for (int token : NO_TOKENS) {
            due("feed(" + token + ")", x.feed(token), FULL);
        }
        for (int token = 6; token <= 25; token++) {
            due("feed(" + token + "), unbound", x.feed(token), FULL);
        }
        dueTokens(x, THIRTEEN_NOTS);
    }

    private static void completeBeforeBad() {
        QuantifierDesk x = desk(ALL_P);
        for (int token : NO_TOKENS) {
            due("feed(" + token + ")", x.feed(token), FULL);
        }
        for (int token = 6; token <= 25; token++) {
            due("feed(" + token + "), unbound", x.feed(token), FULL);
        }
        dueTokens(x, ALL_P);
    }

    private static void fourRefuseOnlyQuantifiers() {
        for (int token = 0; token <= 25; token++) {
            QuantifierDesk x = desk(ALL, SOME, ALL, SOME);
            boolean quantifier = token == ALL || token == SOME;
            due("feed(" + token + ") inside four", x.feed(token), quantifier ? FULL : 5);
        }
        for (int token : NO_TOKENS) {
            due("feed(" + token + ") inside four", desk(ALL, SOME, ALL, SOME).feed(token), BAD);
        }
        due("P0 beside four", desk(OR, ALL, SOME, ALL, SOME, P3).feed(P0), BAD);
    }

    private static void feedCounts() {
        QuantifierDesk x = new QuantifierDesk();
        for (int k = 0; k < 13; k++) {
            due("feed as token " + k, x.feed(THIRTEEN_WHOLE[k]), k + 1);
        }
        dueTokens(x, THIRTEEN_WHOLE);
        due("complete()", x.complete(), true);
    }

    private static void refusedFeedChangesNothing() {
        QuantifierDesk unbound = deskKeeping(ALL_P, ALL);
        due("feed(P1)", unbound.feed(P1), BAD);
        due("feed(-1)", unbound.feed(-1), BAD);
        due("feed(26)", unbound.feed(26), BAD);
        dueTokens(unbound, ALL);
        feedAll(unbound, P0);
        due("agreeing()", unbound.agreeing(), 64);
        due("feed(NOT)", unbound.feed(NOT), FULL);
        dueTokens(unbound, ALL_P);
        due("models()", unbound.models(), 16);
        due("agreeing()", unbound.agreeing(), 64);
        due("back()", unbound.back(), P0);

        QuantifierDesk four = desk(ALL, ALL, ALL, ALL);
        due("feed(SOME)", four.feed(SOME), FULL);
        dueTokens(four, ALL, ALL, ALL, ALL);
        due("back()", four.back(), ALL);

        QuantifierDesk thirteen = desk(THIRTEEN_NOTS);
        due("feed(AND)", thirteen.feed(AND), FULL);
        dueTokens(thirteen, THIRTEEN_NOTS);
    }

    // Promises 3 and 4.

    private static void backAndClear() {
        boundary(3, "NONE when there is none, in a new object", BoundariesTest::backOfNew);
        boundary(3, "NONE when there is none, after the first was taken", BoundariesTest::backToNone);
        boundary(3, "NONE when there is none, after clear", BoundariesTest::backAfterClear);
        boundary(3, "takes the last of 13 away", BoundariesTest::backOfThirteen);
        boundary(3, "answers the least and the greatest token", BoundariesTest::backOfEachToken);
        boundary(4, "takes all 13 away", BoundariesTest::clearOfThirteen);
        boundary(4, "with no tokens", BoundariesTest::clearOfNone);
        boundary(4, "what was kept stays", BoundariesTest::clearAndKept);
    }

    private static void backOfNew() {
        QuantifierDesk x = new QuantifierDesk();
        due("back()", x.back(), NONE);
        due("back()", x.back(), NONE);
        dueTokens(x);
        due("feed(ALL)", x.feed(ALL), 1);
    }

    private static void backToNone() {
        QuantifierDesk x = desk(SOME);
        due("back()", x.back(), SOME);
        due("back()", x.back(), NONE);
        dueTokens(x);
        due("feed(P0) with none around", x.feed(P0), BAD);
        due("back() after a refused feed", x.back(), NONE);
        due("feed(NOT)", x.feed(NOT), 1);
    }

    private static void backAfterClear() {
        QuantifierDesk x = desk(ALL_P);
        x.clear();
        due("back()", x.back(), NONE);
        due("length()", x.length(), 0);
    }

    private static void backOfThirteen() {
        QuantifierDesk x = deskKeeping(ALL_P, THIRTEEN_WHOLE);
        for (int k = 12; k >= 0; k--) {
            due("back()", x.back(), THIRTEEN_WHOLE[k]);
            due("length()", x.length(), k);
            due("token(" + k + ")", x.token(k), NONE);
            due("complete()", x.complete(), false);
        }
        due("back()", x.back(), NONE);
        feedAll(x, ALL_P);
        due("agreeing() with what was kept", x.agreeing(), 64);
    }

    private static void backOfEachToken() {
        for (int token = 0; token <= 25; token++) {
            QuantifierDesk x = desk(ALL, SOME, ALL);
            feedAll(x, token == SOME ? SOME : ALL);
            if (token != ALL && token != SOME) {
                feedAll(x, token);
            }
            due("back()", x.back(), token);
        }
    }

    private static void clearOfThirteen() {
        int[][] fulls = {THIRTEEN_NOTS, THIRTEEN_WHOLE};
        for (int[] full : fulls) {
            QuantifierDesk x = desk(full);
            x.clear();
            dueTokens(x);
            due("complete()", x.complete(), false);
            due("models()", x.models(), NONE);
            due("feed(P0) with none around", x.feed(P0), BAD);
            feedAll(x, THIRTEEN_WHOLE);
            due("models()", x.models(), 16);
        }
    }

    private static void clearOfNone() {
        QuantifierDesk x = new QuantifierDesk();
        x.clear();
        x.clear();
        dueTokens(x);
        feedAll(x, NEVER);
        due("impliesKept() with nothing kept", x.impliesKept(), false);
        due("agreeing() with nothing kept", x.agreeing(), NONE);
    }

    private static void clearAndKept() {
        QuantifierDesk x = deskKeeping(ALL_P);
        x.clear();
        x.clear();
        due("agreeing() with no tokens", x.agreeing(), NONE);
        feedAll(x, ALL_P);
        due("agreeing()", x.agreeing(), 64);
        due("impliesKept()", x.impliesKept(), true);
        refill(x, SOME_P);
        due("agreeing()", x.agreeing(), 32);
        due("impliesKept()", x.impliesKept(), false);
    }

    // Promises 5 to 7.

    private static void lengthTokenComplete() {
        boundary(5, "from 0 to 13 and back to 0", BoundariesTest::lengthAtEachSize);
        boundary(5, "not changed by refused calls", BoundariesTest::lengthAfterRefusals);
        boundary(6, "NONE when k is below 0", BoundariesTest::tokenBelow);
        boundary(6, "NONE when k is above length() - 1", BoundariesTest::tokenAbove);
        boundary(6, "NONE for every k when there is none", BoundariesTest::tokenOfNone);
        boundary(6, "0 .. length() - 1 with 13 tokens", BoundariesTest::tokenOfThirteen);
        boundary(6, "NONE for what was taken away", BoundariesTest::tokenTakenAway);
        boundary(7, "no tokens are no formula", BoundariesTest::completeOfNone);
        boundary(7, "one token short", BoundariesTest::completeOneShort);
        boundary(7, "with 13 tokens, or not", BoundariesTest::completeOfThirteen);
        boundary(7, "one token is no formula, two can be", BoundariesTest::completeOfOneAndTwo);
    }

    private static void lengthAtEachSize() {
        QuantifierDesk x = new QuantifierDesk();
        for (int size = 0; size < 13; size++) {
            due("length()", x.length(), size);
            due("feed(OR)", x.feed(OR), size + 1);
        }
        for (int size = 13; size > 0; size--) {
            due("length()", x.length(), size);
            due("back()", x.back(), OR);
        }
        due("length()", x.length(), 0);
    }

    private static void lengthAfterRefusals() {
        QuantifierDesk x = new QuantifierDesk();
        due("feed(P0)", x.feed(P0), BAD);
        due("back()", x.back(), NONE);
        due("keep()", x.keep(), false);
        due("length()", x.length(), 0);
        feedAll(x, ALL_P);
        due("feed(P0)", x.feed(P0), FULL);
        due("keep()", x.keep(), true);
        due("length()", x.length(), 2);
        refill(x, THIRTEEN_NOTS);
        due("feed(NOT)", x.feed(NOT), FULL);
        due("length()", x.length(), 13);
    }

    private static void tokenBelow() {
        int[] below = {-1, -2, -12, -13, -32, -256, Integer.MIN_VALUE, Integer.MIN_VALUE + 1};
        QuantifierDesk x = desk(THIRTEEN_WHOLE);
        for (int k : below) {
            due("token(" + k + ")", x.token(k), NONE);
        }
    }

    private static void tokenAbove() {
        int[] above = {13, 14, 16, 32, 64, 256, 1 << 16, Integer.MAX_VALUE - 1, Integer.MAX_VALUE};
        QuantifierDesk x = desk(THIRTEEN_WHOLE);
        QuantifierDesk two = desk(ALL_P);
        for (int k : above) {
            due("token(" + k + ") of thirteen", x.token(k), NONE);
            due("token(" + k + ") of two", two.token(k), NONE);
        }
        for (int k = 2; k < 13; k++) {
            due("token(" + k + ") of two", two.token(k), NONE);
        }
    }

    private static void tokenOfNone() {
        QuantifierDesk x = new QuantifierDesk();
        for (int k = -14; k <= 14; k++) {
            due("token(" + k + ")", x.token(k), NONE);
        }
    }

    private static void tokenOfThirteen() {
        QuantifierDesk x = desk(THIRTEEN_WHOLE);
        for (int k = 0; k < 13; k++) {
            due("token(" + k + ")", x.token(k), THIRTEEN_WHOLE[k]);
        }
    }

    private static void tokenTakenAway() {
        QuantifierDesk x = desk(ALL_P);
        due("back()", x.back(), P0);
        due("token(0)", x.token(0), ALL);
        due("token(1)", x.token(1), NONE);
        due("feed(SOME)", x.feed(SOME), 2);
        due("token(1)", x.token(1), SOME);
        x.clear();
        due("token(0)", x.token(0), NONE);
        due("token(1)", x.token(1), NONE);
    }

    private static void completeOfNone() {
        due("complete()", new QuantifierDesk().complete(), false);
        QuantifierDesk x = desk(ALL_P);
        x.clear();
        due("complete() after clear", x.complete(), false);
        feedAll(x, ALL_P);
        x.back();
        x.back();
        due("complete() after back", x.complete(), false);
    }

    private static void completeOneShort() {
        for (int[] tokens : INCOMPLETE) {
            due("complete()", desk(tokens).complete(), false);
        }
        QuantifierDesk x = new QuantifierDesk();
        for (int token : THIRTEEN_WHOLE) {
            due("complete()", x.complete(), false);
            feedAll(x, token);
        }
    }

    private static void completeOfThirteen() {
        due("complete()", desk(THIRTEEN_WHOLE).complete(), true);
        due("complete()", desk(THIRTEEN_NOTS).complete(), false);
        QuantifierDesk nots = desk(NOT, NOT, NOT, NOT, NOT, NOT, NOT, NOT, NOT, NOT, NOT, SOME, P0);
        due("complete()", nots.complete(), true);
        due("models() under eleven NOTs", nots.models(), 16);
    }

    private static void completeOfOneAndTwo() {
        for (int token = 0; token <= 5; token++) {
            due("complete() of " + token, desk(token).complete(), false);
        }
        due("complete()", desk(ALL_P).complete(), true);
        due("complete()", desk(SOME, r(0, 0)).complete(), true);
        due("complete()", desk(NOT, ALL).complete(), false);
    }

    // Promises 8 and 9.

    private static void holdsAndModels() {
        boundary(8, "false when i is not 0 .. 63", BoundariesTest::holdsOutside);
        boundary(8, "0 and 63 are inside", BoundariesTest::holdsAtTheEnds);
        boundary(8, "false when not complete", BoundariesTest::holdsIncomplete);
        boundary(9, "0 when it is true in none", () -> due("models()", desk(NEVER).models(), 0));
        boundary(9, "64 when it is true in every one", () -> due("models()", desk(ALWAYS).models(), 64));
        boundary(9, "1 and 63", BoundariesTest::modelsOneAnd63);
        boundary(9, "NONE when it is not complete", BoundariesTest::modelsIncomplete);
    }

    private static void holdsOutside() {
        int[][] formulas = {ALWAYS, ONLY_IN_0, ONLY_IN_63, ALL_BUT_0, ALL_BUT_63, NEVER};
        for (int[] formula : formulas) {
            QuantifierDesk x = desk(formula);
            for (int i : NO_INTERPRETATIONS) {
                due("holds(" + i + ")", x.holds(i), false);
            }
        }
    }

    private static void holdsAtTheEnds() {
        due("holds(0)", desk(ALWAYS).holds(0), true);
        due("holds(63)", desk(ALWAYS).holds(63), true);
        due("holds(0)", desk(ONLY_IN_0).holds(0), true);
        due("holds(63)", desk(ONLY_IN_0).holds(63), false);
        due("holds(0)", desk(ONLY_IN_63).holds(0), false);
        due("holds(63)", desk(ONLY_IN_63).holds(63), true);
    }

    private static void holdsIncomplete() {
        for (int[] tokens : INCOMPLETE) {
            QuantifierDesk x = desk(tokens);
            for (int i = -1; i <= 64; i++) {
                due("holds(" + i + ")", x.holds(i), false);
            }
        }
        // What was true before the last token went must not be answered from memory.
        QuantifierDesk x = desk(ALWAYS);
        due("holds(0)", x.holds(0), true);
        due("back()", x.back(), P0);
        due("holds(0) after back", x.holds(0), false);
    }

    private static void modelsOneAnd63() {
        due("models()", desk(ONLY_IN_0).models(), 1);
        due("models()", desk(ONLY_IN_63).models(), 1);
        due("models()", desk(ALL_BUT_0).models(), 63);
        due("models()", desk(ALL_BUT_63).models(), 63);
    }

    private static void modelsIncomplete() {
        for (int[] tokens : INCOMPLETE) {
            due("models()", desk(tokens).models(), NONE);
        }
        QuantifierDesk x = desk(NEVER);
        due("models()", x.models(), 0);
        due("back()", x.back(), P0);
        due("models() after back", x.models(), NONE);
    }

    // Promises 10 and 11.

    private static void modelFromAndValid() {
        boundary(10, "not below i: i itself, where it is true", BoundariesTest::modelFromItself);
        boundary(10, "the least: the next one above i", BoundariesTest::modelFromNext);
        boundary(10, "NONE when there is none, not one below i", BoundariesTest::modelFromPastTheLast);
        boundary(10, "NONE when there is none at all", BoundariesTest::modelFromNever);
        boundary(10, "NONE when i is not 0 .. 63", BoundariesTest::modelFromOutside);
        boundary(10, "NONE when the formula is not complete", BoundariesTest::modelFromIncomplete);
        boundary(11, "true in every interpretation", BoundariesTest::validInEvery);
        boundary(11, "false in one only", BoundariesTest::validButOne);
        boundary(11, "true in one only or in none", BoundariesTest::validInFew);
        boundary(11, "false when not complete", BoundariesTest::validIncomplete);
    }

    private static void modelFromItself() {
        QuantifierDesk x = desk(ALWAYS);
        for (int i = 0; i < 64; i++) {
            due("modelFrom(" + i + ")", x.modelFrom(i), i);
        }
        due("modelFrom(63)", desk(ONLY_IN_63).modelFrom(63), 63);
        due("modelFrom(0)", desk(ONLY_IN_0).modelFrom(0), 0);
    }

    private static void modelFromNext() {
        QuantifierDesk x = desk(ONLY_IN_63);
        for (int i = 0; i < 63; i++) {
            due("modelFrom(" + i + ")", x.modelFrom(i), 63);
        }
        due("modelFrom(0)", desk(ALL_BUT_0).modelFrom(0), 1);
        due("modelFrom(1)", desk(ALL_BUT_0).modelFrom(1), 1);
        due("modelFrom(62)", desk(ALL_BUT_63).modelFrom(62), 62);
    }

    private static void modelFromPastTheLast() {
        QuantifierDesk x = desk(ONLY_IN_0);
        for (int i = 1; i < 64; i++) {
            due("modelFrom(" + i + ")", x.modelFrom(i), NONE);
        }
        due("modelFrom(63)", desk(ALL_BUT_63).modelFrom(63), NONE);
    }

    private static void modelFromNever() {
        QuantifierDesk x = desk(NEVER);
        for (int i = 0; i < 64; i++) {
            due("modelFrom(" + i + ")", x.modelFrom(i), NONE);
        }
    }

    private static void modelFromOutside() {
        int[][] formulas = {ALWAYS, ONLY_IN_0, ONLY_IN_63};
        for (int[] formula : formulas) {
            QuantifierDesk x = desk(formula);
            for (int i : NO_INTERPRETATIONS) {
                due("modelFrom(" + i + ")", x.modelFrom(i), NONE);
            }
        }
    }

    private static void modelFromIncomplete() {
        for (int[] tokens : INCOMPLETE) {
            QuantifierDesk x = desk(tokens);
            for (int i = -1; i <= 64; i++) {
                due("modelFrom(" + i + ")", x.modelFrom(i), NONE);
            }
        }
        QuantifierDesk x = desk(ALWAYS);
        due("modelFrom(0)", x.modelFrom(0), 0);
        due("back()", x.back(), P0);
        due("modelFrom(0) after back", x.modelFrom(0), NONE);
    }

    private static void validInEvery() {
        due("valid()", desk(ALWAYS).valid(), true);
        due("valid()", desk(NOT, SOME, AND, P0, NOT, P0).valid(), true);
        due("valid() with 13 tokens",
                desk(IF, SOME, ALL, NOT, NOT, r(0, 1), NOT, NOT, ALL, NOT, NOT, SOME, r(1, 0)).valid(), true);
    }

    private static void validButOne() {
        due("valid(), false in 0", desk(ALL_BUT_0).valid(), false);
        due("valid(), false in 63", desk(ALL_BUT_63).valid(), false);
        // False in interpretation 3 only.
        due("valid(), false in 3", desk(NOT, ALL, ALL, AND, P0, NOT, r(0, 1)).valid(), false);
    }

    private static void validInFew() {
        due("valid(), true in 0", desk(ONLY_IN_0).valid(), false);
        due("valid(), true in 63", desk(ONLY_IN_63).valid(), false);
        due("valid(), true in none", desk(NEVER).valid(), false);
    }

    private static void validIncomplete() {
        for (int[] tokens : INCOMPLETE) {
            due("valid()", desk(tokens).valid(), false);
        }
        QuantifierDesk x = desk(ALWAYS);
        due("valid()", x.valid(), true);
        due("back()", x.back(), P0);
        due("valid() after back", x.valid(), false);
    }

    // Promise 12.

    private static void depends() {
        boundary(12, "false when b is not 0 .. 5", BoundariesTest::dependsOutside);
        boundary(12, "0 and 5 are inside", BoundariesTest::dependsAtTheEnds);
        boundary(12, "two interpretations are enough", BoundariesTest::dependsByOnePair);
        boundary(12, "differ in bit b only", BoundariesTest::dependsOnSomeBits);
        boundary(12, "false when it is true in all or in none", BoundariesTest::dependsOnNothing);
        boundary(12, "false when not complete", BoundariesTest::dependsIncomplete);
    }

    private static void dueDepends(QuantifierDesk x, int bits) {
        for (int b = 0; b < 6; b++) {
            due("depends(" + b + ")", x.depends(b), bit(bits, b));
        }
    }

    private static void dependsOutside() {
        int[][] formulas = {ONLY_IN_0, ONLY_IN_63, ALL_BUT_0, ALL_BUT_63, ALL_P, ALWAYS, NEVER};
        for (int[] formula : formulas) {
            QuantifierDesk x = desk(formula);
            for (int b : NO_BITS) {
                due("depends(" + b + ")", x.depends(b), false);
            }
        }
    }

    private static void dependsAtTheEnds() {
        dueDepends(desk(SOME_P), 0b000011);
        dueDepends(desk(ALL, r(0, 0)), 0b100100);
    }

    private static void dependsByOnePair() {
        dueDepends(desk(ONLY_IN_0), 0b111111);
        dueDepends(desk(ONLY_IN_63), 0b111111);
        dueDepends(desk(ALL_BUT_0), 0b111111);
        dueDepends(desk(ALL_BUT_63), 0b111111);
    }

    private static void dependsOnSomeBits() {
        // From each thing to the other: the loops, bits 2 and 5, do not matter.
        dueDepends(desk(SOME, SOME, AND, P0, AND, NOT, P1, r(0, 1)), 0b011011);
        dueDepends(desk(ALL, ALL, r(0, 1)), 0b111100);
        // P stands in it, but cannot change it.
        dueDepends(desk(SOME, OR, r(0, 0), AND, P0, NOT, P0), 0b100100);
    }

    private static void dependsOnNothing() {
        dueDepends(desk(ALWAYS), 0);
        dueDepends(desk(NEVER), 0);
    }

    private static void dependsIncomplete() {
        for (int[] tokens : INCOMPLETE) {
            QuantifierDesk x = desk(tokens);
            for (int b = -1; b <= 6; b++) {
                due("depends(" + b + ")", x.depends(b), false);
            }
        }
        QuantifierDesk x = desk(ALL_P);
        due("depends(0)", x.depends(0), true);
        due("back()", x.back(), P0);
        due("depends(0) after back", x.depends(0), false);
    }

    // Promises 13 to 15.

    private static void kept() {
        boundary(13, "false when not complete", BoundariesTest::keepIncomplete);
        boundary(13, "false, changing nothing of what was kept", BoundariesTest::refusedKeepAndKept);
        boundary(13, "false, changing nothing of the tokens", BoundariesTest::refusedKeepAndTokens);
        boundary(13, "in place of what was kept before", BoundariesTest::keepInPlace);
        boundary(13, "the formula as it was when kept", BoundariesTest::keptIsNotTheFormulaAtHand);
        boundary(13, "keeps a formula of 13 tokens", BoundariesTest::keepThirteen);
        boundary(13, "keeps one that is never true", BoundariesTest::keepNever);
        boundary(14, "false when nothing is kept", BoundariesTest::impliesNothingKept);
        boundary(14, "false when not complete", BoundariesTest::impliesIncomplete);
        boundary(14, "true in every interpretation, when there is none", BoundariesTest::neverImpliesAll);
        boundary(14, "true in every interpretation but one", BoundariesTest::impliesButOne);
        boundary(14, "the kept one is true in none or in all", BoundariesTest::impliesNeverAndAlways);
        boundary(15, "NONE when nothing is kept", BoundariesTest::agreeingNothingKept);
        boundary(15, "NONE when not complete", BoundariesTest::agreeingIncomplete);
        boundary(15, "0 and 64", BoundariesTest::agreeingInNoneAndAll);
        boundary(15, "both not counts as both true does", BoundariesTest::agreeingBothNot);
        boundary(15, "1 and 63", BoundariesTest::agreeingOneAnd63);
    }

    private static void keepIncomplete() {
        for (int[] tokens : INCOMPLETE) {
            QuantifierDesk x = desk(tokens);
            due("keep()", x.keep(), false);
            refill(x, NEVER);
            due("agreeing()", x.agreeing(), NONE);
            due("impliesKept()", x.impliesKept(), false);
        }
    }

    private static void refusedKeepAndKept() {
        for (int[] tokens : INCOMPLETE) {
            QuantifierDesk x = deskKeeping(ALL_P, tokens);
            due("keep()", x.keep(), false);
            refill(x, ALL_P);
            due("agreeing()", x.agreeing(), 64);
            refill(x, SOME_P);
            due("agreeing()", x.agreeing(), 32);
        }
    }

    private static void refusedKeepAndTokens() {
        for (int[] tokens : INCOMPLETE) {
            QuantifierDesk x = desk(tokens);
            due("keep()", x.keep(), false);
            dueTokens(x, tokens);
        }
        QuantifierDesk x = desk(ALL_P);
        due("keep()", x.keep(), true);
        dueTokens(x, ALL_P);
        due("complete()", x.complete(), true);
    }

    private static void keepInPlace() {
        QuantifierDesk x = deskKeeping(ALL_P, NOT, ALL, P0);
        due("agreeing() before", x.agreeing(), 0);
        due("keep()", x.keep(), true);
        due("agreeing() after", x.agreeing(), 64);
        due("keep() once more", x.keep(), true);
        due("agreeing() after it", x.agreeing(), 64);
        refill(x, ALL_P);
        due("agreeing() of the one before", x.agreeing(), 0);
    }

    private static void keptIsNotTheFormulaAtHand() {
        QuantifierDesk x = desk(ALL_P);
        due("keep()", x.keep(), true);
        due("back()", x.back(), P0);
        due("feed(R(0, 0))", x.feed(r(0, 0)), 2);
        due("agreeing()", x.agreeing(), 40);
        due("impliesKept()", x.impliesKept(), false);
        refill(x, ALL_P);
        due("agreeing()", x.agreeing(), 64);
    }

    private static void keepThirteen() {
        QuantifierDesk x = deskKeeping(THIRTEEN_WHOLE, ALL_P);
        due("agreeing()", x.agreeing(), 64);
        refill(x, NOT, ALL, P0);
        due("agreeing()", x.agreeing(), 0);
        refill(x, THIRTEEN_NOTS);
        due("keep()", x.keep(), false);
    }

    private static void keepNever() {
        QuantifierDesk x = deskKeeping(NEVER, NEVER);
        due("agreeing()", x.agreeing(), 64);
        due("impliesKept()", x.impliesKept(), true);
    }

    private static void impliesNothingKept() {
        due("impliesKept()", desk(NEVER).impliesKept(), false);
        due("impliesKept()", desk(ALWAYS).impliesKept(), false);
        due("impliesKept()", desk(ALL_P).impliesKept(), false);
        due("impliesKept() of none", new QuantifierDesk().impliesKept(), false);
    }

    private static void impliesIncomplete() {
        for (int[] tokens : INCOMPLETE) {
            due("impliesKept()", deskKeeping(ALWAYS, tokens).impliesKept(), false);
        }
        QuantifierDesk x = deskKeeping(ALWAYS, NEVER);
        due("impliesKept()", x.impliesKept(), true);
        due("back()", x.back(), P0);
        due("impliesKept() after back", x.impliesKept(), false);
    }

    private static void neverImpliesAll() {
        int[][] formulas = {NEVER, ALWAYS, ALL_P, ONLY_IN_0, ONLY_IN_63, ALL_BUT_0, ALL_BUT_63};
        for (int[] formula : formulas) {
            due("impliesKept()", deskKeeping(formula, NEVER).impliesKept(), true);
        }
    }

    private static void impliesButOne() {
        due("all but 0", deskKeeping(ALL_BUT_0, ALWAYS).impliesKept(), false);
        due("all but 63", deskKeeping(ALL_BUT_63, ALWAYS).impliesKept(), false);
        due("0 by all but 0", deskKeeping(ALL_BUT_0, ONLY_IN_0).impliesKept(), false);
        due("63 by all but 63", deskKeeping(ALL_BUT_63, ONLY_IN_63).impliesKept(), false);
        due("63 by all but 0", deskKeeping(ALL_BUT_0, ONLY_IN_63).impliesKept(), true);
        due("0 by all but 63", deskKeeping(ALL_BUT_63, ONLY_IN_0).impliesKept(), true);
        due("itself", deskKeeping(ALL_BUT_0, ALL_BUT_0).impliesKept(), true);
    }

    private static void impliesNeverAndAlways() {
        int[][] formulas = {ALWAYS, ALL_P, ONLY_IN_0, ONLY_IN_63, ALL_BUT_0, ALL_BUT_63};
        for (int[] formula : formulas) {
            due("the kept one never true", deskKeeping(NEVER, formula).impliesKept(), false);
            due("the kept one always true", deskKeeping(ALWAYS, formula).impliesKept(), true);
        }
    }

    private static void agreeingNothingKept() {
        due("agreeing()", desk(NEVER).agreeing(), NONE);
        due("agreeing()", desk(ALWAYS).agreeing(), NONE);
        due("agreeing() of none", new QuantifierDesk().agreeing(), NONE);
    }

    private static void agreeingIncomplete() {
        for (int[] tokens : INCOMPLETE) {
            due("agreeing(), nothing kept", desk(tokens).agreeing(), NONE);
            due("agreeing()", deskKeeping(ALWAYS, tokens).agreeing(), NONE);
            due("agreeing()", deskKeeping(NEVER, tokens).agreeing(), NONE);
        }
        QuantifierDesk x = deskKeeping(ALL_P, ALL_P);
        due("agreeing()", x.agreeing(), 64);
        due("back()", x.back(), P0);
        due("agreeing() after back", x.agreeing(), NONE);
    }

    private static void agreeingInNoneAndAll() {
        due("never and always", deskKeeping(NEVER, ALWAYS).agreeing(), 0);
        due("always and never", deskKeeping(ALWAYS, NEVER).agreeing(), 0);
        due("0 and all but 0", deskKeeping(ONLY_IN_0, ALL_BUT_0).agreeing(), 0);
        due("63 and all but 63", deskKeeping(ONLY_IN_63, ALL_BUT_63).agreeing(), 0);
        due("always and always", deskKeeping(ALWAYS, ALWAYS).agreeing(), 64);
        due("63 and 63", deskKeeping(ONLY_IN_63, ONLY_IN_63).agreeing(), 64);
    }

    private static void agreeingBothNot() {
        due("never and never", deskKeeping(NEVER, NEVER).agreeing(), 64);
        due("0 and 63", deskKeeping(ONLY_IN_0, ONLY_IN_63).agreeing(), 62);
        due("never and ALL P", deskKeeping(NEVER, ALL_P).agreeing(), 48);
        due("always and ALL P", deskKeeping(ALWAYS, ALL_P).agreeing(), 16);
    }

    private static void agreeingOneAnd63() {
        due("never and all but 0", deskKeeping(NEVER, ALL_BUT_0).agreeing(), 1);
        due("never and all but 63", deskKeeping(NEVER, ALL_BUT_63).agreeing(), 1);
        due("always and all but 0", deskKeeping(ALWAYS, ALL_BUT_0).agreeing(), 63);
        due("always and all but 63", deskKeeping(ALWAYS, ALL_BUT_63).agreeing(), 63);
    }
}
