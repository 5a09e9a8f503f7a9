/** One method for each promise of the document, with answers worked out by hand from its words. */
public final class PromisesTest {
    private static final int NOT = 0;
    private static final int AND = 1;
    private static final int OR = 2;
    private static final int IF = 3;
    private static final int ALL = 4;
    private static final int SOME = 5;
    private static final int[] OUTSIDE = {
        -1, -2, -64, -63, 64, 65, 127, 128, 1000, Integer.MIN_VALUE, Integer.MIN_VALUE + 1, Integer.MAX_VALUE
    };

    private static int wrong = 0;

    public static void main(String[] args) {
        promise1NewObject();
        promise2FeedCounts();
        promise2FeedFull();
        promise2FeedBad();
        promise2FeedVariables();
        promise2FeedPlaces();
        promise2FeedFullBeforeBad();
        promise3Back();
        promise4Clear();
        promise5Length();
        promise6Token();
        promise7Complete();
        promise8Holds();
        promise8HoldsWrongInputs();
        promise9Models();
        promise10ModelFrom();
        promise11Valid();
        promise12Depends();
        promise13Keep();
        promise14ImpliesKept();
        promise15Agreeing();
        System.out.println(wrong == 0 ? "all answers are as due" : wrong + " answers are not as due");
        if (wrong != 0) {
            System.exit(1);
        }
    }

    private static void due(String what, long got, long want) {
        if (got != want) {
            wrong++;
            System.out.println(what + " answered " + got + ", due is " + want);
        }
    }

    private static void due(String what, boolean got, boolean want) {
        due(what, got ? 1L : 0L, want ? 1L : 0L);
    }

    private static int p(int v) {
        return 6 + v;
    }

    private static int r(int v, int w) {
        return 10 + 4 * v + w;
    }

    private static boolean bit(int i, int b) {
        return ((i >> b) & 1) == 1;
    }

    private static void feedAll(QuantifierDesk desk, int... tokens) {
        for (int token : tokens) {
            int want = desk.length() + 1;
            due("feed(" + token + ") as token " + (want - 1), desk.feed(token), want);
        }
    }

    private static QuantifierDesk deskWith(int... tokens) {
        QuantifierDesk desk = new QuantifierDesk();
        feedAll(desk, tokens);
        return desk;
    }

    private static void refill(QuantifierDesk desk, int... tokens) {
        desk.clear();
        feedAll(desk, tokens);
    }

    private static void promise1NewObject() {
        due("1: length", new QuantifierDesk().length(), 0);
        due("1: token(0)", new QuantifierDesk().token(0), QuantifierDesk.NONE);
        due("1: back", new QuantifierDesk().back(), QuantifierDesk.NONE);
        due("1: complete", new QuantifierDesk().complete(), false);
        due("1: agreeing", new QuantifierDesk().agreeing(), QuantifierDesk.NONE);
        // A formula that is never true would imply anything that was kept, so only "nothing kept" makes this false.
        QuantifierDesk never = deskWith(ALL, AND, p(0), NOT, p(0));
        due("1: impliesKept of a new object", never.impliesKept(), false);
        due("1: agreeing of a new object", never.agreeing(), QuantifierDesk.NONE);
        QuantifierDesk other = deskWith(SOME, p(0));
        due("1: keep", other.keep(), true);
        due("1: objects share nothing kept", never.agreeing(), QuantifierDesk.NONE);
        due("1: objects share no tokens", new QuantifierDesk().length(), 0);
        due("1: BAD", QuantifierDesk.BAD, -1);
        due("1: FULL", QuantifierDesk.FULL, -2);
        due("1: NONE", QuantifierDesk.NONE, -1);
    }

    private static void promise2FeedCounts() {
        QuantifierDesk desk = new QuantifierDesk();
        int[] longest = {AND, AND, ALL, p(0), SOME, p(0), IF, ALL, p(0), NOT, NOT, SOME, p(0)};
        for (int k = 0; k < longest.length; k++) {
            due("2: feed as token " + k, desk.feed(longest[k]), k + 1);
        }
        due("2: thirteen tokens", desk.length(), 13);
        due("2: thirteen tokens make it complete", desk.complete(), true);
    }

    private static void promise2FeedFull() {
        QuantifierDesk nots = new QuantifierDesk();
        for (int k = 1; k <= 13; k++) {
            due("2: feed(NOT)", nots.feed(NOT), k);
        }
        for (int token = 0; token <= 25; token++) {
            due("2: feed(" + token + ") after thirteen", nots.feed(token), QuantifierDesk.FULL);
        }
        due("2: length after FULL", nots.length(), 13);

        QuantifierDesk whole = deskWith(ALL, p(0));
        for (int token = 0; token <= 25; token++) {
            due("2: feed(" + token + ") after a complete formula", whole.feed(token), QuantifierDesk.FULL);
        }
        due("2: length after FULL", whole.length(), 2);
        due("2: last token after FULL", whole.token(1), p(0));

        QuantifierDesk four = deskWith(ALL, SOME, ALL, SOME);
        due("2: a fifth ALL", four.feed(ALL), QuantifierDesk.FULL);
        due("2: a fifth SOME", four.feed(SOME), QuantifierDesk.FULL);
        due("2: length after FULL", four.length(), 4);
        due("2: NOT after four quantifiers", four.feed(NOT), 5);

        // All four count, also those that are not around the place.
        QuantifierDesk beside = deskWith(AND, ALL, p(0), AND, SOME, p(0), AND, ALL, p(0), AND, SOME, p(0));
        due("2: a fifth ALL beside four", beside.feed(ALL), QuantifierDesk.FULL);
        due("2: a fifth SOME beside four", beside.feed(SOME), QuantifierDesk.FULL);
        due("2: no variable is bound beside four", beside.feed(p(0)), QuantifierDesk.BAD);
        due("2: the thirteenth token", beside.feed(IF), 13);
        due("2: a fourteenth token", beside.feed(p(0)), QuantifierDesk.FULL);

        QuantifierDesk three = deskWith(AND, ALL, p(0), AND, SOME, p(0), AND, ALL, p(0));
        due("2: a fourth quantifier", three.feed(SOME), 10);
    }

    private static void promise2FeedBad() {
        int[] noTokens = {-1, -2, 26, 27, 30, 36, 64, 256, Integer.MIN_VALUE, Integer.MAX_VALUE};
        QuantifierDesk deep = deskWith(ALL, ALL, ALL, ALL);
        QuantifierDesk empty = new QuantifierDesk();
        for (int token : noTokens) {
            due("2: feed(" + token + ") in a new object", empty.feed(token), QuantifierDesk.BAD);
            due("2: feed(" + token + ") inside four quantifiers", deep.feed(token), QuantifierDesk.BAD);
        }
        due("2: length after BAD", empty.length(), 0);
        due("2: length after BAD", deep.length(), 4);
        due("2: the greatest token", deep.feed(25), 5);
    }

    private static void promise2FeedVariables() {
        for (int depth = 0; depth <= 4; depth++) {
            for (int v = 0; v < 4; v++) {
                dueAtom(depth, p(v), v < depth);
                for (int w = 0; w < 4; w++) {
                    dueAtom(depth, r(v, w), v < depth && w < depth);
                }
            }
        }
    }

    private static void dueAtom(int depth, int atom, boolean bound) {
        QuantifierDesk desk = new QuantifierDesk();
        for (int k = 0; k < depth; k++) {
            desk.feed(k % 2 == 0 ? SOME : ALL);
        }
        due("2: feed(" + atom + ") inside " + depth, desk.feed(atom), bound ? depth + 1 : QuantifierDesk.BAD);
        due("2: length after it", desk.length(), bound ? depth + 1 : depth);
        due("2: complete after it", desk.complete(), bound);
    }

    private static void promise2FeedPlaces() {
        QuantifierDesk beside = deskWith(AND, ALL, p(0));
        due("2: a quantifier beside is not around", beside.feed(p(0)), QuantifierDesk.BAD);
        due("2: nor for R", beside.feed(r(0, 0)), QuantifierDesk.BAD);

        QuantifierDesk inner = deskWith(ALL, OR, SOME, r(0, 1));
        due("2: the inner one has ended", inner.feed(p(1)), QuantifierDesk.BAD);
        due("2: for the first of R too", inner.feed(r(1, 0)), QuantifierDesk.BAD);
        due("2: for the second of R too", inner.feed(r(0, 1)), QuantifierDesk.BAD);
        due("2: the outer one goes on", inner.feed(p(0)), 5);

        QuantifierDesk nested = deskWith(IF, ALL, AND, SOME, AND, p(1), ALL, p(2));
        due("2: back at one around", nested.feed(p(1)), QuantifierDesk.BAD);
        feedAll(nested, p(0));
        due("2: back at none around", nested.feed(p(0)), QuantifierDesk.BAD);
        due("2: back at none around, for R", nested.feed(r(0, 0)), QuantifierDesk.BAD);
        feedAll(nested, NOT, SOME, p(0));
        due("2: complete at last", nested.complete(), true);
        // Binary tokens alone leave the most places open; the last token must still be weighed rightly.
        QuantifierDesk wide = deskWith(AND, OR, IF, AND, OR, IF, AND, OR, IF, AND, OR, IF);
        due("2: no variable in the widest", wide.feed(p(0)), QuantifierDesk.BAD);
        due("2: the last token of the widest", wide.feed(AND), 13);
        due("2: the widest is full", wide.feed(AND), QuantifierDesk.FULL);
        due("2: the widest is not complete", wide.complete(), false);
    }

    private static void promise2FeedFullBeforeBad() {
        QuantifierDesk whole = deskWith(ALL, p(0));
        QuantifierDesk thirteen = deskWith(NOT, NOT, NOT, NOT, NOT, NOT, NOT, NOT, NOT, NOT, NOT, NOT, NOT);
        for (int token : OUTSIDE) {
            due("2: feed(" + token + ") after a complete formula", whole.feed(token), QuantifierDesk.FULL);
            due("2: feed(" + token + ") after thirteen", thirteen.feed(token), QuantifierDesk.FULL);
        }
        due("2: unbound after thirteen", thirteen.feed(p(0)), QuantifierDesk.FULL);
    }

    private static void promise3Back() {
        QuantifierDesk desk = deskWith(AND, ALL, p(0), SOME, r(0, 0));
        desk.keep();
        due("3: back", desk.back(), r(0, 0));
        due("3: length", desk.length(), 4);
        due("3: no longer complete", desk.complete(), false);
        due("3: back", desk.back(), SOME);
        due("3: the place is outside again", desk.feed(p(0)), QuantifierDesk.BAD);
        due("3: back", desk.back(), p(0));
        due("3: the place is inside again", desk.feed(p(0)), 3);
        due("3: back", desk.back(), p(0));
        due("3: back", desk.back(), ALL);
        due("3: back", desk.back(), AND);
        due("3: back with none", desk.back(), QuantifierDesk.NONE);
        due("3: back with none again", desk.back(), QuantifierDesk.NONE);
        due("3: length with none", desk.length(), 0);
        feedAll(desk, AND, ALL, p(0), SOME, r(0, 0));
        due("3: what was kept stays", desk.agreeing(), 64);

        QuantifierDesk four = deskWith(ALL, ALL, ALL, ALL);
        due("3: a refused token is not taken back", four.feed(SOME), QuantifierDesk.FULL);
        due("3: back", four.back(), ALL);
        due("3: one more quantifier fits again", four.feed(SOME), 4);
    }

    private static void promise4Clear() {
        QuantifierDesk desk = deskWith(ALL, SOME, ALL, SOME, r(0, 3));
        due("4: keep", desk.keep(), true);
        int before = desk.models();
        desk.clear();
        due("4: length", desk.length(), 0);
        due("4: token(0)", desk.token(0), QuantifierDesk.NONE);
        due("4: complete", desk.complete(), false);
        due("4: back", desk.back(), QuantifierDesk.NONE);
        due("4: models", desk.models(), QuantifierDesk.NONE);
        due("4: no variable is bound", desk.feed(p(0)), QuantifierDesk.BAD);
        feedAll(desk, ALL, SOME, ALL, SOME, r(0, 3));
        due("4: the same formula again", desk.models(), before);
        due("4: what was kept stays", desk.agreeing(), 64);
        due("4: what was kept stays", desk.impliesKept(), true);

        QuantifierDesk empty = new QuantifierDesk();
        empty.clear();
        due("4: clear with none", empty.length(), 0);
        feedAll(empty, SOME, p(0));
        due("4: clear keeps nothing", empty.agreeing(), QuantifierDesk.NONE);
    }

    private static void promise5Length() {
        QuantifierDesk desk = new QuantifierDesk();
        due("5: length", desk.length(), 0);
        desk.feed(SOME);
        due("5: length", desk.length(), 1);
        desk.feed(p(1));
        due("5: length after BAD", desk.length(), 1);
        desk.feed(p(0));
        due("5: length", desk.length(), 2);
        desk.feed(p(0));
        due("5: length after FULL", desk.length(), 2);
        desk.back();
        due("5: length after back", desk.length(), 1);
        desk.clear();
        due("5: length after clear", desk.length(), 0);
    }

    private static void promise6Token() {
        int[] tokens = {IF, SOME, ALL, r(1, 0), NOT, ALL, p(0)};
        QuantifierDesk desk = deskWith(tokens);
        for (int k = 0; k < tokens.length; k++) {
            due("6: token(" + k + ")", desk.token(k), tokens[k]);
        }
        for (int k = tokens.length; k <= 14; k++) {
            due("6: token(" + k + ")", desk.token(k), QuantifierDesk.NONE);
        }
        for (int k : OUTSIDE) {
            due("6: token(" + k + ")", desk.token(k), QuantifierDesk.NONE);
        }
        desk.back();
        due("6: a token taken away", desk.token(6), QuantifierDesk.NONE);
        due("6: the one before it", desk.token(5), ALL);
    }

    private static void promise7Complete() {
        int[] tokens = {AND, NOT, ALL, p(0), OR, SOME, p(0), IF, ALL, p(0), SOME, p(0)};
        QuantifierDesk desk = new QuantifierDesk();
        for (int token : tokens) {
            due("7: complete before the end", desk.complete(), false);
            feedAll(desk, token);
        }
        due("7: complete at the end", desk.complete(), true);
        desk.back();
        due("7: complete after back", desk.complete(), false);
        due("7: a quantifier alone", deskWith(ALL).complete(), false);
        due("7: NOT alone", deskWith(NOT).complete(), false);
        due("7: half of AND", deskWith(AND, ALL, p(0)).complete(), false);
        due("7: half of OR", deskWith(OR, ALL, p(0)).complete(), false);
        due("7: half of IF", deskWith(IF, ALL, p(0)).complete(), false);
    }

    private static void promise8Holds() {
        QuantifierDesk allP = deskWith(ALL, p(0));
        QuantifierDesk someP = deskWith(SOME, p(0));
        QuantifierDesk notSomeP = deskWith(NOT, SOME, p(0));
        QuantifierDesk loop = deskWith(SOME, r(0, 0));
        QuantifierDesk fromOneToAll = deskWith(SOME, ALL, r(0, 1));
        QuantifierDesk fromAllToOne = deskWith(SOME, ALL, r(1, 0));
        QuantifierDesk ifAllLoop = deskWith(IF, ALL, p(0), SOME, r(0, 0));
        QuantifierDesk orAllLoop = deskWith(OR, ALL, p(0), SOME, r(0, 0));
        QuantifierDesk andAllLoop = deskWith(AND, ALL, p(0), SOME, r(0, 0));
        QuantifierDesk oneP = deskWith(SOME, AND, p(0), SOME, NOT, p(1));
        QuantifierDesk third = deskWith(ALL, SOME, SOME, ALL, AND, r(0, 2), NOT, p(2));
        for (int i = 0; i < 64; i++) {
            boolean bothP = bit(i, 0) && bit(i, 1);
            boolean eitherP = bit(i, 0) || bit(i, 1);
            boolean someLoop = bit(i, 2) || bit(i, 5);
            due("8: ALL P in " + i, allP.holds(i), bothP);
            due("8: SOME P in " + i, someP.holds(i), eitherP);
            due("8: NOT SOME P in " + i, notSomeP.holds(i), !eitherP);
            due("8: SOME R(0, 0) in " + i, loop.holds(i), someLoop);
            due("8: SOME ALL R(0, 1) in " + i, fromOneToAll.holds(i), bit(i, 2) && bit(i, 3) || bit(i, 4) && bit(i, 5));
            due("8: SOME ALL R(1, 0) in " + i, fromAllToOne.holds(i), bit(i, 2) && bit(i, 4) || bit(i, 3) && bit(i, 5));
            due("8: IF in " + i, ifAllLoop.holds(i), !bothP || someLoop);
            due("8: OR in " + i, orAllLoop.holds(i), bothP || someLoop);
            due("8: AND in " + i, andAllLoop.holds(i), bothP && someLoop);
            due("8: one P, one not, in " + i, oneP.holds(i), eitherP && !bothP);
            boolean zeroGoes = bit(i, 2) && !bit(i, 0) || bit(i, 3) && !bit(i, 1);
            boolean oneGoes = bit(i, 4) && !bit(i, 0) || bit(i, 5) && !bit(i, 1);
            due("8: third variable in " + i, third.holds(i), zeroGoes && oneGoes);
        }
    }

    private static void promise8HoldsWrongInputs() {
        QuantifierDesk always = deskWith(ALL, OR, p(0), NOT, p(0));
        due("8: holds(0)", always.holds(0), true);
        due("8: holds(63)", always.holds(63), true);
        for (int i : OUTSIDE) {
            due("8: holds(" + i + ")", always.holds(i), false);
        }
        always.back();
        for (int i = 0; i < 64; i++) {
            due("8: holds(" + i + ") when not complete", always.holds(i), false);
            due("8: holds(" + i + ") of a new object", new QuantifierDesk().holds(i), false);
        }
    }

    private static void promise9Models() {
        due("9: ALL P", deskWith(ALL, p(0)).models(), 16);
        due("9: SOME P", deskWith(SOME, p(0)).models(), 48);
        due("9: SOME ALL R", deskWith(SOME, ALL, r(0, 1)).models(), 28);
        due("9: ALL ALL R", deskWith(ALL, ALL, r(0, 1)).models(), 4);
        due("9: never", deskWith(SOME, AND, p(0), NOT, p(0)).models(), 0);
        due("9: always", deskWith(ALL, IF, p(0), p(0)).models(), 64);
        due("9: of a new object", new QuantifierDesk().models(), QuantifierDesk.NONE);
        due("9: not complete", deskWith(AND, ALL, p(0)).models(), QuantifierDesk.NONE);
    }

    private static void promise10ModelFrom() {
        QuantifierDesk allP = deskWith(ALL, p(0));
        for (int i = 0; i < 64; i++) {
            due("10: modelFrom(" + i + ") of ALL P", allP.modelFrom(i), i / 4 * 4 + 3);
        }
        QuantifierDesk noP = deskWith(ALL, NOT, p(0));
        due("10: modelFrom(0)", noP.modelFrom(0), 0);
        due("10: modelFrom(1)", noP.modelFrom(1), 4);
        due("10: modelFrom(60)", noP.modelFrom(60), 60);
        due("10: modelFrom(61), none left", noP.modelFrom(61), QuantifierDesk.NONE);
        due("10: modelFrom(63), none left", noP.modelFrom(63), QuantifierDesk.NONE);
        QuantifierDesk never = deskWith(SOME, AND, p(0), NOT, p(0));
        due("10: modelFrom(0) of never", never.modelFrom(0), QuantifierDesk.NONE);
        QuantifierDesk always = deskWith(ALL, IF, p(0), p(0));
        for (int i : OUTSIDE) {
            due("10: modelFrom(" + i + ")", always.modelFrom(i), QuantifierDesk.NONE);
        }
        due("10: modelFrom(63) of always", always.modelFrom(63), 63);
        always.back();
        due("10: not complete", always.modelFrom(0), QuantifierDesk.NONE);
        due("10: of a new object", new QuantifierDesk().modelFrom(0), QuantifierDesk.NONE);
    }

    private static void promise11Valid() {
        due("11: P or not P", deskWith(ALL, OR, p(0), NOT, p(0)).valid(), true);
        due("11: one to all, then all from one", deskWith(IF, SOME, ALL, r(0, 1), ALL, SOME, r(1, 0)).valid(), true);
        due("11: the other way", deskWith(IF, ALL, SOME, r(1, 0), SOME, ALL, r(0, 1)).valid(), false);
        due("11: all, then some", deskWith(IF, ALL, p(0), SOME, p(0)).valid(), true);
        due("11: some, then all", deskWith(IF, SOME, p(0), ALL, p(0)).valid(), false);
        due("11: false in interpretation 63 only", deskWith(NOT, ALL, ALL, AND, p(0), r(0, 1)).valid(), false);
        due("11: false in interpretation 0 only", deskWith(SOME, SOME, OR, p(0), r(0, 1)).valid(), false);
        due("11: never", deskWith(SOME, AND, p(0), NOT, p(0)).valid(), false);
        due("11: not complete", deskWith(ALL, OR, p(0), NOT).valid(), false);
        due("11: of a new object", new QuantifierDesk().valid(), false);
    }

    private static void promise12Depends() {
        dueDepends("ALL P", deskWith(ALL, p(0)), 0b000011);
        dueDepends("ALL NOT P", deskWith(ALL, NOT, p(0)), 0b000011);
        dueDepends("SOME R(0, 0)", deskWith(SOME, r(0, 0)), 0b100100);
        dueDepends("ALL SOME R", deskWith(ALL, SOME, r(0, 1)), 0b111100);
        dueDepends("everything", deskWith(ALL, ALL, AND, p(0), r(0, 1)), 0b111111);
        dueDepends("always", deskWith(ALL, OR, p(0), NOT, p(0)), 0);
        dueDepends("never", deskWith(ALL, AND, p(0), NOT, p(0)), 0);
        // Some two things that differ in P and of which the first goes to the second: no loop can matter.
        dueDepends("between", deskWith(SOME, SOME, AND, r(0, 1), AND, p(0), NOT, p(1)), 0b011011);
        dueDepends("not complete", deskWith(AND, ALL, p(0)), 0);
        dueDepends("a new object", new QuantifierDesk(), 0);
    }

    private static void dueDepends(String what, QuantifierDesk desk, int bits) {
        for (int b = 0; b < 6; b++) {
            due("12: depends(" + b + ") of " + what, desk.depends(b), bit(bits, b));
        }
        int[] noBits = {-1, -2, -31, -32, 6, 7, 31, 32, 33, 63, 64, Integer.MIN_VALUE, Integer.MAX_VALUE};
        for (int b : noBits) {
            due("12: depends(" + b + ") of " + what, desk.depends(b), false);
        }
    }

    private static void promise13Keep() {
        QuantifierDesk desk = new QuantifierDesk();
        due("13: keep of a new object", desk.keep(), false);
        feedAll(desk, ALL, p(0));
        due("13: a refused keep kept nothing", desk.agreeing(), QuantifierDesk.NONE);
        due("13: keep", desk.keep(), true);
        due("13: the tokens stay", desk.length(), 2);
        due("13: agreeing with itself", desk.agreeing(), 64);
        desk.back();
        due("13: keep when not complete", desk.keep(), false);
        feedAll(desk, p(0));
        due("13: a refused keep changed nothing", desk.agreeing(), 64);
        refill(desk, NOT, ALL, p(0));
        due("13: what was kept is still there", desk.agreeing(), 0);
        due("13: keep in place of it", desk.keep(), true);
        due("13: the new one is kept", desk.agreeing(), 64);
        refill(desk, ALL, p(0));
        due("13: the old one is not", desk.agreeing(), 0);
    }

    private static void promise14ImpliesKept() {
        QuantifierDesk desk = deskWith(SOME, p(0));
        due("14: nothing kept", desk.impliesKept(), false);
        desk.keep();
        due("14: itself", desk.impliesKept(), true);
        refill(desk, ALL, p(0));
        due("14: ALL P implies SOME P", desk.impliesKept(), true);
        refill(desk, ALL, r(0, 0));
        due("14: ALL R does not", desk.impliesKept(), false);
        refill(desk, ALL, OR, p(0), NOT, p(0));
        due("14: always does not", desk.impliesKept(), false);
        refill(desk, ALL, AND, p(0), NOT, p(0));
        due("14: never does", desk.impliesKept(), true);
        desk.back();
        due("14: not complete", desk.impliesKept(), false);
        desk.clear();
        due("14: no tokens", desk.impliesKept(), false);
        refill(desk, ALL, p(0));
        desk.keep();
        refill(desk, SOME, p(0));
        due("14: SOME P does not imply ALL P", desk.impliesKept(), false);
    }

    private static void promise15Agreeing() {
        QuantifierDesk desk = deskWith(SOME, p(0));
        due("15: nothing kept", desk.agreeing(), QuantifierDesk.NONE);
        desk.keep();
        due("15: itself", desk.agreeing(), 64);
        refill(desk, ALL, p(0));
        due("15: both or neither P", desk.agreeing(), 32);
        refill(desk, NOT, SOME, p(0));
        due("15: never agreeing", desk.agreeing(), 0);
        refill(desk, ALL, r(0, 0));
        due("15: both in 12, neither in 12", desk.agreeing(), 24);
        refill(desk, SOME, NOT, NOT, p(0));
        due("15: written otherwise", desk.agreeing(), 64);
        desk.back();
        due("15: not complete", desk.agreeing(), QuantifierDesk.NONE);
        desk.clear();
        due("15: no tokens", desk.agreeing(), QuantifierDesk.NONE);
        refill(desk, ALL, p(0));
        due("15: what was kept is still there", desk.agreeing(), 32);
    }
}
