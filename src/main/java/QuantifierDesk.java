/**
 * Decides small formulas with quantifiers over a world of two things.
 *
 * A set of interpretations is held as a long, in which bit i stands for
 * interpretation i: there are exactly 64 of them.
 */
public final class QuantifierDesk {
    public static final int BAD = -1;
    public static final int FULL = -2;
    public static final int NONE = -1;

    private static final int NOT = 0;
    private static final int AND = 1;
    private static final int OR = 2;
    private static final int IF = 3;
    private static final int ALL = 4;
    private static final int SOME = 5;
    private static final int FIRST_P = 6;
    private static final int FIRST_R = 10;
    private static final int LAST_TOKEN = 25;

    private static final int MOST_TOKENS = 13;
    private static final int MOST_QUANTIFIERS = 4;
    private static final int VARIABLES = 4;
    private static final int INTERPRETATIONS = 64;
    private static final int BITS = 6;
    private static final long EVERY_INTERPRETATION = -1L;

    /** The ways to put things in place of four variables; bit v of a choice is the thing of variable v. */
    private static final int CHOICES = 16;

    private static final int PLACES = MOST_TOKENS + 1;
    private static final int CELLS = PLACES * CHOICES;

    private final int[] tokens = new int[MOST_TOKENS];
    private int size = 0;

    private boolean somethingKept = false;
    /** The kept formula is only ever asked where it is true, so its models are all that is kept. */
    private long keptModels = 0L;

    // What stands below is worked out anew whenever it is needed; it carries nothing from call to call.

    /** How many quantifiers stand around each token and, where one more can follow, around its place. */
    private final int[] depths = new int[PLACES];
    /** The depths of the places that still want a formula, the next one to be filled last. */
    private final int[] openDepths = new int[PLACES];
    /** Where the subformula that begins at a token has ended; never past the place after the last token. */
    private final int[] ends = new int[PLACES];
    /** For the subformula that begins at token k, under choice c: its models, at k * CHOICES + c. */
    private final long[] modelsOf = new long[CELLS];

    public QuantifierDesk() {
    }

    public int feed(int token) {
        // FULL goes before BAD: even a number that is no token is answered FULL when nothing more fits.
        if (size >= MOST_TOKENS || complete()) {
            return FULL;
        }
        if (isQuantifier(token) && quantifiers() >= MOST_QUANTIFIERS) {
            return FULL;
        }
        if (token < 0 || token > LAST_TOKEN) {
            return BAD;
        }
        findDepths();
        if (variablesNeeded(token) > depths[size]) {
            return BAD;
        }
        tokens[size] = token;
        size = size + 1;
        return size;
    }

    public int back() {
        if (size == 0) {
            return NONE;
        }
        size = size - 1;
        return tokens[size];
    }

    public void clear() {
        size = 0;
    }

    public int length() {
        return size;
    }

    public int token(int k) {
        if (k < 0 || k >= size) {
            return NONE;
        }
        return tokens[k];
    }

    public boolean complete() {
        int open = 1;
        for (int k = 0; k < size; k++) {
            open = open - 1 + parts(tokens[k]);
        }
        return open == 0;
    }

    public boolean holds(int i) {
        if (!isInterpretation(i) || !complete()) {
            return false;
        }
        long found = findModels();
        return contains(found, i);
    }

    public int models() {
        if (!complete()) {
            return NONE;
        }
        long found = findModels();
        return count(found);
    }

    public int modelFrom(int i) {
        if (!isInterpretation(i) || !complete()) {
            return NONE;
        }
        long found = findModels();
        for (int j = i; j < INTERPRETATIONS; j++) {
            if (contains(found, j)) {
                return j;
            }
        }
        return NONE;
    }

    public boolean valid() {
        return complete() && findModels() == EVERY_INTERPRETATION;
    }

    public boolean depends(int b) {
        if (b < 0 || b >= BITS || !complete()) {
            return false;
        }
        long found = findModels();
        long with = interpretationsWithBit(b);
        // Setting bit b adds 1 << b to an interpretation, so this shift lays each pair on one place.
        long trueWithBit = (found & with) >>> (1 << b);
        long trueWithoutBit = found & ~with;
        return trueWithBit != trueWithoutBit;
    }

    public boolean keep() {
        if (!complete()) {
            return false;
        }
        keptModels = findModels();
        somethingKept = true;
        return true;
    }

    public boolean impliesKept() {
        if (!somethingKept || !complete()) {
            return false;
        }
        return (findModels() & ~keptModels) == 0L;
    }

    public int agreeing() {
        if (!somethingKept || !complete()) {
            return NONE;
        }
        long agreed = ~(findModels() ^ keptModels);
        return count(agreed);
    }

    private static boolean isQuantifier(int token) {
        return token == ALL || token == SOME;
    }

    private static boolean isInterpretation(int i) {
        return i >= 0 && i < INTERPRETATIONS;
    }

    /** How many formulas a token wants after it. */
    private static int parts(int token) {
        if (token >= FIRST_P) {
            return 0;
        }
        if (token == AND || token == OR || token == IF) {
            return 2;
        }
        return 1;
    }

    /** How many quantifiers must stand around a token so that each of its variables is bound. */
    private static int variablesNeeded(int token) {
        if (token < FIRST_P) {
            return 0;
        }
        if (token < FIRST_R) {
            return token - FIRST_P + 1;
        }
        int first = firstOfR(token);
        int second = secondOfR(token);
        return first > second ? first + 1 : second + 1;
    }

    private static int firstOfR(int token) {
        return (token - FIRST_R) / VARIABLES;
    }

    private static int secondOfR(int token) {
        return (token - FIRST_R) % VARIABLES;
    }

    private int quantifiers() {
        int found = 0;
        for (int k = 0; k < size; k++) {
            if (isQuantifier(tokens[k])) {
                found++;
            }
        }
        return found;
    }

    private void findDepths() {
        int open = 1;
        openDepths[0] = 0;
        for (int k = 0; k < size && open > 0; k++) {
            int depth = openDepths[open - 1];
            depths[k] = depth;
            int inside = isQuantifier(tokens[k]) ? depth + 1 : depth;
            open--;
            for (int part = parts(tokens[k]); part > 0; part--) {
                openDepths[open] = inside;
                open++;
            }
        }
        if (open > 0) {
            depths[size] = openDepths[open - 1];
        }
    }

    /** The interpretations in which the formula is true; says nothing about one that is not complete. */
    private long findModels() {
        findDepths();
        // A part that is missing begins and ends here, so that no index can leave its array.
        ends[size] = size;
        // From the last token back, so that the parts of each subformula are known before it.
        for (int k = size - 1; k >= 0; k--) {
            int wanted = parts(tokens[k]);
            if (wanted == 0) {
                ends[k] = k + 1;
                findAtom(k);
            } else if (wanted == 2) {
                int second = ends[k + 1];
                ends[k] = ends[second];
                findOfTwo(k, second);
            } else {
                ends[k] = ends[k + 1];
                findOfOne(k);
            }
        }
        // A whole formula has no free variable, so every choice gives the same models.
        return modelsOf[0];
    }

    private void findAtom(int k) {
        int token = tokens[k];
        for (int choice = 0; choice < CHOICES; choice++) {
            int bit;
            if (token < FIRST_R) {
                bit = thing(choice, token - FIRST_P);
            } else {
                int first = firstOfR(token);
                int second = secondOfR(token);
                bit = 2 + 2 * thing(choice, first) + thing(choice, second);
            }
            modelsOf[k * CHOICES + choice] = interpretationsWithBit(bit);
        }
    }

    private void findOfOne(int k) {
        if (tokens[k] == NOT) {
            findNot(k);
        } else {
            findQuantified(k);
        }
    }

    private void findNot(int k) {
        int part = (k + 1) * CHOICES;
        for (int choice = 0; choice < CHOICES; choice++) {
            modelsOf[k * CHOICES + choice] = ~modelsOf[part + choice];
        }
    }

    private void findQuantified(int k) {
        int part = (k + 1) * CHOICES;
        // The quantifiers are numbered from the outermost, so as many stand around one as its number says.
        // feed lets no fifth one in: the number is at most 3, and a choice with its bit set is a choice.
        int own = 1 << depths[k];
        for (int choice = 0; choice < CHOICES; choice++) {
            long forThing0 = modelsOf[part + (choice & ~own)];
            long forThing1 = modelsOf[part + (choice | own)];
            modelsOf[k * CHOICES + choice] =
                    tokens[k] == ALL ? forThing0 & forThing1 : forThing0 | forThing1;
        }
    }

    private void findOfTwo(int k, int second) {
        for (int choice = 0; choice < CHOICES; choice++) {
            long f = modelsOf[(k + 1) * CHOICES + choice];
            long g = modelsOf[second * CHOICES + choice];
            long found;
            if (tokens[k] == AND) {
                found = f & g;
            } else if (tokens[k] == OR) {
                found = f | g;
            } else {
                found = ~f | g;
            }
            modelsOf[k * CHOICES + choice] = found;
        }
    }

    private static int thing(int choice, int variable) {
        return (choice >> variable) & 1;
    }

    private static long interpretationsWithBit(int bit) {
        long found = 0L;
        for (int i = 0; i < INTERPRETATIONS; i++) {
            if (((i >> bit) & 1) == 1) {
                found = found | (1L << i);
            }
        }
        return found;
    }

    private static boolean contains(long interpretations, int i) {
        return ((interpretations >>> i) & 1L) == 1L;
    }

    private static int count(long interpretations) {
        int found = 0;
        for (int i = 0; i < INTERPRETATIONS; i++) {
            if (contains(interpretations, i)) {
                found++;
            }
        }
        return found;
    }
}
