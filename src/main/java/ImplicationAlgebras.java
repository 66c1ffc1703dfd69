/**
 * A workbench for finite Heyting algebras: posets, the algebras of their up-sets, formulas of
 * intuitionistic propositional logic, filters, generated subalgebras and maps between posets.
 *
 * Sets of points are ints with bit i for point i. All rows are made in the constructors and used
 * again, because everything that a run of calls makes is counted.
 */
public final class ImplicationAlgebras {
    public static final int NO_SUCH_ELEMENT = -1;
    public static final int BAD_VALUE = -2;
    public static final int MISSING = -3;
    public static final int CYCLE = -4;
    public static final int TOO_LARGE = -5;
    public static final int NONE = -6;
    public static final int FULL = -7;
    public static final int MISSING_ROW = -8;
    public static final int WRONG_TYPE = -9;
    public static final int OUT_OF_BOUNDS = -10;
    public static final int NEGATIVE_LENGTH = -11;

    private static final int POSETS = 4;
    private static final int MOST_POINTS = 6;
    private static final int MOST_SETS = 64;
    private static final int FORMULAS = 6;
    private static final int MOST_TEXT = 40;
    private static final int MOST_SIGNS = 60;
    private static final int MOST_OPEN = 8;
    private static final int SYNTAX_ERROR = -100;
    private static final int MOST_VALUATIONS = 20000;
    private static final int MOST_GENERATORS = 4;
    private static final int ROWS = 3;
    private static final int MOST_ROW_ELEMENTS = 30;
    // The least long; written as a shift, because the rules list functions of Long but not its constants.
    private static final long NO_ROW_ELEMENT = 1L << 63;

    private static final int VARIABLES = 3;

    // The signs of a formula. Leaves come first; the operators ascend by how strongly they bind.
    private static final int SIGN_BOTTOM = 3;
    private static final int SIGN_TOP = 4;
    private static final int LEAVES = 5;
    private static final int SIGN_IMPLIES = 5;
    private static final int SIGN_OR = 6;
    private static final int SIGN_AND = 7;
    private static final int SIGN_NOT = 8;
    private static final int NO_SIGN = -1;

    private static final int STEP_MEET = 0;
    private static final int STEP_JOIN = 1;
    private static final int STEP_IMPLIES = 2;
    private static final int NO_STEP = 3;

    private static final int KIND_MONOTONE = 0;
    private static final int KIND_BOUNDED = 1;
    private static final int KIND_BOUNDED_ONTO = 2;
    private static final int KIND_EMBEDDING = 3;

    private static final int ENDED_BY_ROW = 0;
    private static final int ENDED_BY_POINT = 1;
    private static final int ENDED_BY_CYCLE = 2;
    private static final int ENDED_BY_SINGLE = 3;

    private final Poset[] posets = new Poset[POSETS];
    private final Formula[] formulas = new Formula[FORMULAS];
    private final Row[] rows = new Row[ROWS];
    private final Text text = new Text();
    private final int[] generators = new int[MOST_GENERATORS];
    private int generatorCount = 0;
    private final Subalgebra subalgebra = new Subalgebra();
    private int loadEnd = ENDED_BY_ROW;

    // Results are drafted here first, because the target may be one of the sources.
    private final int[] draftOrder = new int[MOST_POINTS];
    private final int[] draftSigns = new int[MOST_SIGNS];

    public ImplicationAlgebras() {
        for (int i = 0; i < POSETS; i++) {
            posets[i] = new Poset();
        }
        for (int i = 0; i < FORMULAS; i++) {
            formulas[i] = new Formula();
        }
        for (int i = 0; i < ROWS; i++) {
            rows[i] = new Row();
        }
    }

    // ---- posets

    public int reset(int poset, int points) {
        Poset target = posetAt(poset);
        if (target == null) {
            return NO_SUCH_ELEMENT;
        }
        if (points < 1 || points > MOST_POINTS) {
            return BAD_VALUE;
        }
        int previous = target.size;
        for (int x = 0; x < points; x++) {
            draftOrder[x] = 1 << x;
        }
        target.replaceOrder(points, draftOrder);
        return previous;
    }

    public int points(int poset) {
        Poset order = posetAt(poset);
        return order == null ? NO_SUCH_ELEMENT : order.size;
    }

    public int relate(int poset, int a, int b) {
        Poset order = posetAt(poset);
        return order == null ? NO_SUCH_ELEMENT : order.extendOrder(a, b);
    }

    public int isBelow(int poset, int a, int b) {
        Poset order = posetAt(poset);
        if (order == null || !order.hasPoint(a) || !order.hasPoint(b)) {
            return NO_SUCH_ELEMENT;
        }
        return order.below(a, b) ? 1 : 0;
    }

    public int covers(int poset, int point) {
        Poset order = posetAt(poset);
        if (order == null || !order.hasPoint(point)) {
            return NO_SUCH_ELEMENT;
        }
        return order.coversOf(point);
    }

    public int property(int poset, int what) {
        Poset order = posetAt(poset);
        if (order == null) {
            return NO_SUCH_ELEMENT;
        }
        switch (what) {
            case 0:
                return order.largestChain();
            case 1:
                return order.largestAntichain();
            case 2:
                return order.minimalPoints();
            case 3:
                return order.maximalPoints();
            case 4:
                return order.components();
            case 5:
                return order.properPairs();
            default:
                return BAD_VALUE;
        }
    }

    // ---- elements

    public int elementCount(int poset) {
        Poset order = posetAt(poset);
        return order == null ? NO_SUCH_ELEMENT : order.elements;
    }

    public int elementBits(int poset, int element) {
        Poset order = posetAt(poset);
        if (order == null || !order.hasElement(element)) {
            return NO_SUCH_ELEMENT;
        }
        return order.bitsOf[element];
    }

    public int elementOf(int poset, int bits) {
        Poset order = posetAt(poset);
        if (order == null) {
            return NO_SUCH_ELEMENT;
        }
        if ((bits & ~order.allPoints()) != 0) {
            return BAD_VALUE;
        }
        return order.numberOf[bits];
    }

    public int meet(int poset, int a, int b) {
        return combine(poset, a, b, STEP_MEET);
    }

    public int join(int poset, int a, int b) {
        return combine(poset, a, b, STEP_JOIN);
    }

    public int implies(int poset, int a, int b) {
        return combine(poset, a, b, STEP_IMPLIES);
    }

    // ---- formulas

    public int append(int character) {
        if (character < 33 || character > 126) {
            return BAD_VALUE;
        }
        if (text.length >= MOST_TEXT) {
            return FULL;
        }
        text.characters[text.length] = character;
        text.length++;
        return text.length;
    }

    public int clearText() {
        int previous = text.length;
        text.length = 0;
        return previous;
    }

    public int parse(int formula) {
        Formula target = formulaAt(formula);
        int error = target == null ? NO_SIGN : text.readFormula();
        text.length = 0;
        if (target == null) {
            return NO_SUCH_ELEMENT;
        }
        if (error >= 0) {
            return SYNTAX_ERROR - error;
        }
        target.replaceSigns(text.signCount, text.signs);
        return target.size;
    }

    public int formulaSize(int formula) {
        Formula source = formulaAt(formula);
        if (source == null) {
            return NO_SUCH_ELEMENT;
        }
        return source.isMissing() ? MISSING : source.size;
    }

    public int substitute(int formula, int variable, int by, int to) {
        Formula outer = formulaAt(formula);
        Formula inner = formulaAt(by);
        Formula target = formulaAt(to);
        if (outer == null || inner == null || target == null || !isVariable(variable)) {
            return NO_SUCH_ELEMENT;
        }
        if (outer.isMissing() || inner.isMissing()) {
            return MISSING;
        }
        int size = outer.size + outer.occurrences(variable) * (inner.size - 1);
        if (size > MOST_SIGNS) {
            return TOO_LARGE;
        }
        draftSubstitution(outer, variable, inner);
        target.replaceSigns(size, draftSigns);
        return size;
    }

    // ---- values

    public int setValue(int poset, int variable, int element) {
        Poset order = posetAt(poset);
        if (order == null || !isVariable(variable) || !order.hasElement(element)) {
            return NO_SUCH_ELEMENT;
        }
        int previous = order.valuation[variable];
        order.valuation[variable] = element;
        return previous;
    }

    public int value(int poset, int formula) {
        Poset order = posetAt(poset);
        Formula source = formulaAt(formula);
        if (order == null || source == null) {
            return NO_SUCH_ELEMENT;
        }
        if (source.isMissing()) {
            return MISSING;
        }
        return order.numberOf[source.currentBits(order)];
    }

    public int isForced(int poset, int formula, int point) {
        Poset order = posetAt(poset);
        Formula source = formulaAt(formula);
        if (order == null || source == null || !order.hasPoint(point)) {
            return NO_SUCH_ELEMENT;
        }
        if (source.isMissing()) {
            return MISSING;
        }
        return source.currentBits(order) >> point & 1;
    }

    public int isValid(int poset, int formula) {
        Poset order = posetAt(poset);
        Formula source = formulaAt(formula);
        if (order == null || source == null) {
            return NO_SUCH_ELEMENT;
        }
        int refusal = refusalToSearch(order, source);
        if (refusal != 0) {
            return refusal;
        }
        return source.firstRefutation(order) == NONE ? 1 : 0;
    }

    public int refutation(int poset, int formula, int variable) {
        Poset order = posetAt(poset);
        Formula source = formulaAt(formula);
        if (order == null || source == null || !isVariable(variable)) {
            return NO_SUCH_ELEMENT;
        }
        int refusal = refusalToSearch(order, source);
        if (refusal != 0) {
            return refusal;
        }
        int packed = source.firstRefutation(order);
        return packed == NONE ? NONE : Formula.unpack(packed, variable);
    }

    public int countValuations(int poset, int formula, int element) {
        Poset order = posetAt(poset);
        Formula source = formulaAt(formula);
        if (order == null || source == null || !order.hasElement(element)) {
            return NO_SUCH_ELEMENT;
        }
        int refusal = refusalToSearch(order, source);
        if (refusal != 0) {
            return refusal;
        }
        return source.valuationsWith(order, order.bitsOf[element]);
    }

    // ---- filters

    public int filterClass(int poset, int filter, int element) {
        // a and b are equivalent if m & a = m & b, so m & a itself is the least of the class of a.
        return combine(poset, filter, element, STEP_MEET);
    }

    public int quotientSize(int poset, int filter) {
        Poset order = posetAt(poset);
        if (order == null || !order.hasElement(filter)) {
            return NO_SUCH_ELEMENT;
        }
        return order.elementsWithin(order.bitsOf[filter]);
    }

    public int isPrime(int poset, int filter) {
        Poset order = posetAt(poset);
        if (order == null || !order.hasElement(filter)) {
            return NO_SUCH_ELEMENT;
        }
        return order.hasLeastPoint(order.bitsOf[filter]) ? 1 : 0;
    }

    // ---- terms

    public int addGenerator(int element) {
        if (element < 0 || element >= MOST_SETS) {
            return BAD_VALUE;
        }
        if (generatorCount >= MOST_GENERATORS) {
            return FULL;
        }
        generators[generatorCount] = element;
        generatorCount++;
        return generatorCount;
    }

    public int clearGenerators() {
        int previous = generatorCount;
        generatorCount = 0;
        return previous;
    }

    public int generate(int poset) {
        Poset order = posetAt(poset);
        if (order == null) {
            return NO_SUCH_ELEMENT;
        }
        for (int i = 0; i < generatorCount; i++) {
            if (!order.hasElement(generators[i])) {
                return BAD_VALUE;
            }
        }
        subalgebra.start(order);
        for (int i = 0; i < generatorCount; i++) {
            subalgebra.cost[generators[i]] = 1;
        }
        subalgebra.findCosts(order);
        subalgebra.findSteps(order);
        return subalgebra.settledCount;
    }

    public long term(int element, int what) {
        if (element < 0 || element >= subalgebra.elements) {
            return NO_SUCH_ELEMENT;
        }
        if (what < 0 || what > 3) {
            return BAD_VALUE;
        }
        if (subalgebra.cost[element] == 0) {
            return NONE;
        }
        switch (what) {
            case 0:
                return subalgebra.cost[element];
            case 1:
                return subalgebra.operator[element];
            case 2:
                return subalgebra.first[element];
            default:
                return subalgebra.second[element];
        }
    }

    // ---- maps

    public int countMaps(int from, int to, int kind) {
        Poset source = posetAt(from);
        Poset target = posetAt(to);
        if (source == null || target == null) {
            return NO_SUCH_ELEMENT;
        }
        if (kind < KIND_MONOTONE || kind > KIND_EMBEDDING) {
            return BAD_VALUE;
        }
        MapSearch search = new MapSearch(source, target, kind, false);
        searchMaps(search, 0);
        return search.count;
    }

    public int firstMap(int from, int to, int kind) {
        Poset source = posetAt(from);
        Poset target = posetAt(to);
        if (source == null || target == null) {
            return NO_SUCH_ELEMENT;
        }
        if (kind < KIND_MONOTONE || kind > KIND_EMBEDDING) {
            return BAD_VALUE;
        }
        MapSearch search = new MapSearch(source, target, kind, true);
        searchMaps(search, 0);
        return search.count == 0 ? NONE : search.digits();
    }

    public int isIsomorphic(int a, int b) {
        Poset source = posetAt(a);
        Poset target = posetAt(b);
        if (source == null || target == null) {
            return NO_SUCH_ELEMENT;
        }
        if (source.size != target.size) {
            return 0;
        }
        MapSearch search = new MapSearch(source, target, KIND_EMBEDDING, true);
        searchMaps(search, 0);
        return search.count == 0 ? 0 : 1;
    }

    // ---- posets made of posets

    public int sum(int a, int b, int kind, int to) {
        Poset lower = posetAt(a);
        Poset upper = posetAt(b);
        Poset target = posetAt(to);
        if (lower == null || upper == null || target == null) {
            return NO_SUCH_ELEMENT;
        }
        if (kind < 0 || kind > 1) {
            return BAD_VALUE;
        }
        int size = lower.size + upper.size;
        if (size > MOST_POINTS) {
            return TOO_LARGE;
        }
        int linked = kind == 1 ? upper.allPoints() << lower.size : 0;
        for (int x = 0; x < lower.size; x++) {
            draftOrder[x] = lower.above[x] | linked;
        }
        for (int y = 0; y < upper.size; y++) {
            draftOrder[lower.size + y] = upper.above[y] << lower.size;
        }
        target.replaceOrder(size, draftOrder);
        return size;
    }

    public int product(int a, int b, int to) {
        Poset left = posetAt(a);
        Poset right = posetAt(b);
        Poset target = posetAt(to);
        if (left == null || right == null || target == null) {
            return NO_SUCH_ELEMENT;
        }
        int size = left.size * right.size;
        if (size > MOST_POINTS) {
            return TOO_LARGE;
        }
        for (int i = 0; i < left.size; i++) {
            for (int j = 0; j < right.size; j++) {
                draftOrder[i * right.size + j] = pairsAbove(left, i, right, j);
            }
        }
        target.replaceOrder(size, draftOrder);
        return size;
    }

    public int restrict(int poset, int element, int to) {
        Poset source = posetAt(poset);
        Poset target = posetAt(to);
        if (source == null || target == null || !source.hasElement(element)) {
            return NO_SUCH_ELEMENT;
        }
        int bits = source.bitsOf[element];
        if (bits == 0) {
            return BAD_VALUE;
        }
        int size = 0;
        for (int x = 0; x < source.size; x++) {
            if ((bits >> x & 1) != 0) {
                draftOrder[size] = renumbered(source.above[x], bits);
                size++;
            }
        }
        target.replaceOrder(size, draftOrder);
        return size;
    }

    public int dual(int poset, int to) {
        Poset source = posetAt(poset);
        Poset target = posetAt(to);
        if (source == null || target == null) {
            return NO_SUCH_ELEMENT;
        }
        int size = source.size;
        for (int x = 0; x < size; x++) {
            draftOrder[x] = source.downSet[1 << x];
        }
        target.replaceOrder(size, draftOrder);
        return size;
    }

    // ---- rows

    public int allocate(int row, int type, int length) {
        Row target = rowAt(row);
        if (target == null) {
            return NO_SUCH_ELEMENT;
        }
        if (type < Row.BYTES || type > Row.INTS || length > MOST_ROW_ELEMENTS) {
            return BAD_VALUE;
        }
        if (length < 0) {
            return NEGATIVE_LENGTH;
        }
        target.replaceRow(type, length);
        return length;
    }

    public int put(int row, int index, int value) {
        Row target = rowAt(row);
        if (target == null) {
            return NO_SUCH_ELEMENT;
        }
        if (target.isMissing()) {
            return MISSING_ROW;
        }
        if (!target.hasIndex(index)) {
            return OUT_OF_BOUNDS;
        }
        target.data[index] = target.narrowed(value);
        return 1;
    }

    public long rowElement(int row, int index) {
        Row source = rowAt(row);
        if (source == null || source.isMissing() || !source.hasIndex(index)) {
            return NO_ROW_ELEMENT;
        }
        return source.data[index];
    }

    public int copyElements(int from, int first, int to, int second, int count) {
        Row source = rowAt(from);
        Row target = rowAt(to);
        if (source == null || target == null) {
            return NO_SUCH_ELEMENT;
        }
        if (source.isMissing() || target.isMissing()) {
            return MISSING_ROW;
        }
        if (source.type != target.type) {
            return WRONG_TYPE;
        }
        if (!source.hasRange(first, count) || !target.hasRange(second, count)) {
            return OUT_OF_BOUNDS;
        }
        System.arraycopy(source.data, first, target.data, second, count);
        return count;
    }

    public int storeElements(int row, int poset) {
        Row target = rowAt(row);
        Poset order = posetAt(poset);
        if (target == null || order == null) {
            return NO_SUCH_ELEMENT;
        }
        if (target.isMissing()) {
            return MISSING_ROW;
        }
        int stored = Math.min(order.elements, target.length);
        for (int i = 0; i < stored; i++) {
            target.data[i] = target.narrowed(order.bitsOf[i]);
        }
        return stored < order.elements ? OUT_OF_BOUNDS : order.elements;
    }

    public int loadOrder(int row, int poset) {
        Row source = rowAt(row);
        Poset order = posetAt(poset);
        if (source == null || order == null) {
            return NO_SUCH_ELEMENT;
        }
        if (source.isMissing()) {
            return MISSING_ROW;
        }
        int successes = 0;
        loadEnd = source.length % 2 == 0 ? ENDED_BY_ROW : ENDED_BY_SINGLE;
        for (int i = 0; i + 1 < source.length; i += 2) {
            int answer = order.extendOrder(source.data[i], source.data[i + 1]);
            if (answer < 0) {
                loadEnd = answer == CYCLE ? ENDED_BY_CYCLE : ENDED_BY_POINT;
                break;
            }
            successes++;
        }
        return successes;
    }

    public int failure() {
        return loadEnd;
    }

    // ---- what the calls share

    private Poset posetAt(int poset) {
        return poset >= 0 && poset < POSETS ? posets[poset] : null;
    }

    private Formula formulaAt(int formula) {
        return formula >= 0 && formula < FORMULAS ? formulas[formula] : null;
    }

    private Row rowAt(int row) {
        return row >= 0 && row < ROWS ? rows[row] : null;
    }

    private static boolean isVariable(int variable) {
        return variable >= 0 && variable < VARIABLES;
    }

    private int combine(int poset, int a, int b, int step) {
        Poset order = posetAt(poset);
        if (order == null || !order.hasElement(a) || !order.hasElement(b)) {
            return NO_SUCH_ELEMENT;
        }
        return order.resultOf(step, a, b);
    }

    private static int refusalToSearch(Poset order, Formula source) {
        if (source.isMissing()) {
            return MISSING;
        }
        return source.valuations(order) > MOST_VALUATIONS ? TOO_LARGE : 0;
    }

    /** Signs stand in postfix order, so a formula can be put in where the variable's sign stands. */
    private void draftSubstitution(Formula outer, int variable, Formula inner) {
        int length = 0;
        for (int i = 0; i < outer.size; i++) {
            boolean replaced = outer.signs[i] == variable;
            int added = replaced ? inner.size : 1;
            if (length + added > MOST_SIGNS) {
                return;
            }
            if (replaced) {
                System.arraycopy(inner.signs, 0, draftSigns, length, added);
            } else {
                draftSigns[length] = outer.signs[i];
            }
            length += added;
        }
    }

    /** The points of a product that are above the pair of i and j. */
    private static int pairsAbove(Poset left, int i, Poset right, int j) {
        int bits = 0;
        for (int k = 0; k < left.size; k++) {
            if (left.below(i, k)) {
                bits |= right.above[j] << (k * right.size);
            }
        }
        return bits;
    }

    /** The bits of a set that belong to kept points, moved to the new numbers of these points. */
    private static int renumbered(int set, int kept) {
        int bits = 0;
        int number = 0;
        for (int x = 0; x < MOST_POINTS; x++) {
            if ((kept >> x & 1) != 0) {
                bits |= (set >> x & 1) << number;
                number++;
            }
        }
        return bits;
    }

    /** Tries all images of the points from next on; each level stands for one point. */
    private static void searchMaps(MapSearch search, int next) {
        if (next >= search.source.size) {
            search.countIfAccepted();
            return;
        }
        for (int image = 0; image < search.target.size; image++) {
            search.images[next] = image;
            if (search.fitsEarlier(next)) {
                searchMaps(search, next + 1);
                if (search.onlyFirst && search.count > 0) {
                    return;
                }
            }
        }
    }

    /** A partial order, its up-sets, and its current valuation. */
    private static final class Poset {
        int size;
        final int[] above = new int[MOST_POINTS];
        // For each set of points the least down-set that contains it; all implications come from it.
        final int[] downSet = new int[MOST_SETS];
        int elements;
        final int[] bitsOf = new int[MOST_SETS];
        final int[] numberOf = new int[MOST_SETS];
        final int[] valuation = new int[VARIABLES];

        Poset() {
            size = 1;
            above[0] = 1;
            refresh();
        }

        int allPoints() {
            return (1 << size) - 1;
        }

        boolean hasPoint(int point) {
            return point >= 0 && point < size;
        }

        boolean hasElement(int element) {
            return element >= 0 && element < elements;
        }

        boolean below(int a, int b) {
            return (above[a] >> b & 1) != 0;
        }

        /** Takes a reflexive, transitive and antisymmetric order of at most MOST_POINTS points. */
        void replaceOrder(int newSize, int[] newAbove) {
            size = newSize;
            for (int x = 0; x < newSize; x++) {
                above[x] = newAbove[x];
            }
            refresh();
        }

        /** Returns what relate returns for this poset. */
        int extendOrder(int a, int b) {
            if (!hasPoint(a) || !hasPoint(b)) {
                return NO_SUCH_ELEMENT;
            }
            if (a != b && below(b, a)) {
                return CYCLE;
            }
            for (int x = 0; x < size; x++) {
                if (below(x, a)) {
                    above[x] |= above[b];
                }
            }
            refresh();
            return properPairs();
        }

        /** Everything that depends on the order is made anew whenever the order is touched. */
        private void refresh() {
            findDownSets();
            findElements();
            for (int v = 0; v < VARIABLES; v++) {
                valuation[v] = 0;
            }
        }

        private void findDownSets() {
            downSet[0] = 0;
            for (int x = 0; x < size; x++) {
                int down = pointsBelow(x);
                int bit = 1 << x;
                for (int set = 0; set < bit; set++) {
                    downSet[set | bit] = downSet[set] | down;
                }
            }
        }

        private int pointsBelow(int point) {
            int bits = 0;
            for (int x = 0; x < size; x++) {
                if (below(x, point)) {
                    bits |= 1 << x;
                }
            }
            return bits;
        }

        private void findElements() {
            elements = 0;
            for (int pointCount = 0; pointCount <= size; pointCount++) {
                for (int set = 0; set <= allPoints(); set++) {
                    if (Integer.bitCount(set) == pointCount) {
                        numberSet(set);
                    }
                }
            }
        }

        private void numberSet(int set) {
            boolean upSet = (downSet[allPoints() & ~set] & set) == 0;
            numberOf[set] = upSet ? elements : NONE;
            if (upSet) {
                bitsOf[elements] = set;
                elements++;
            }
        }

        /** The points from which no point above is in a without being in b. */
        int implication(int a, int b) {
            int all = allPoints();
            return all & ~downSet[all & a & ~b];
        }

        int resultOf(int step, int a, int b) {
            int x = bitsOf[a];
            int y = bitsOf[b];
            if (step == STEP_MEET) {
                return numberOf[x & y];
            }
            return numberOf[step == STEP_JOIN ? x | y : implication(x, y)];
        }

        int coversOf(int point) {
            int greater = greaterPoints(point);
            int covers = greater;
            for (int y = 0; y < size; y++) {
                if ((greater >> y & 1) != 0) {
                    covers &= ~greaterPoints(y);
                }
            }
            return covers;
        }

        private int greaterPoints(int point) {
            return above[point] & ~(1 << point);
        }

        private int relatedPoints(int point) {
            return above[point] | downSet[1 << point];
        }

        int largestChain() {
            int largest = 0;
            for (int set = 0; set <= allPoints(); set++) {
                if (isChain(set)) {
                    largest = Math.max(largest, Integer.bitCount(set));
                }
            }
            return largest;
        }

        private boolean isChain(int set) {
            for (int x = 0; x < size; x++) {
                if ((set >> x & 1) != 0 && (set & ~relatedPoints(x)) != 0) {
                    return false;
                }
            }
            return true;
        }

        int largestAntichain() {
            int largest = 0;
            for (int set = 0; set <= allPoints(); set++) {
                if (isAntichain(set)) {
                    largest = Math.max(largest, Integer.bitCount(set));
                }
            }
            return largest;
        }

        private boolean isAntichain(int set) {
            for (int x = 0; x < size; x++) {
                if ((set >> x & 1) != 0 && (set & greaterPoints(x)) != 0) {
                    return false;
                }
            }
            return true;
        }

        int minimalPoints() {
            int count = 0;
            for (int x = 0; x < size; x++) {
                if (downSet[1 << x] == 1 << x) {
                    count++;
                }
            }
            return count;
        }

        int maximalPoints() {
            int count = 0;
            for (int x = 0; x < size; x++) {
                if (above[x] == 1 << x) {
                    count++;
                }
            }
            return count;
        }

        int components() {
            int count = 0;
            int seen = 0;
            for (int x = 0; x < size; x++) {
                if ((seen >> x & 1) == 0) {
                    seen |= componentOf(x);
                    count++;
                }
            }
            return count;
        }

        private int componentOf(int point) {
            int reached = 1 << point;
            // A way between two points needs fewer steps than there are points.
            for (int step = 1; step < size; step++) {
                int next = reached;
                for (int x = 0; x < size; x++) {
                    if ((reached >> x & 1) != 0) {
                        next |= relatedPoints(x);
                    }
                }
                reached = next;
            }
            return reached;
        }

        int properPairs() {
            int count = 0;
            for (int x = 0; x < size; x++) {
                count += Integer.bitCount(greaterPoints(x));
            }
            return count;
        }

        int elementsWithin(int set) {
            int count = 0;
            for (int i = 0; i < elements; i++) {
                if ((bitsOf[i] & ~set) == 0) {
                    count++;
                }
            }
            return count;
        }

        /** An up-set is no join of smaller ones if and only if one of its points is below the others. */
        boolean hasLeastPoint(int upSet) {
            for (int x = 0; x < size; x++) {
                if (above[x] == upSet) {
                    return true;
                }
            }
            return false;
        }
    }

    /** A formula as signs in postfix order; the size of the formula is their number. */
    private static final class Formula {
        int size = 0;
        final int[] signs = new int[MOST_SIGNS];
        private final int[] leafBits = new int[LEAVES];
        private final int[] stack = new int[MOST_SIGNS];

        boolean isMissing() {
            return size == 0;
        }

        void replaceSigns(int newSize, int[] newSigns) {
            size = newSize;
            for (int i = 0; i < newSize; i++) {
                signs[i] = newSigns[i];
            }
        }

        int occurrences(int variable) {
            int count = 0;
            for (int i = 0; i < size; i++) {
                if (signs[i] == variable) {
                    count++;
                }
            }
            return count;
        }

        private int choices(Poset order, int variable) {
            return occurrences(variable) > 0 ? order.elements : 1;
        }

        int valuations(Poset order) {
            int count = 1;
            for (int v = 0; v < VARIABLES; v++) {
                count *= choices(order, v);
            }
            return count;
        }

        /** The value by the current valuation of a poset. */
        int currentBits(Poset order) {
            for (int v = 0; v < VARIABLES; v++) {
                leafBits[v] = order.bitsOf[order.valuation[v]];
            }
            return bitsOfValue(order);
        }

        /** Returns the elements of the first valuation that refutes, packed into one number, or NONE. */
        int firstRefutation(Poset order) {
            int all = order.allPoints();
            int pEnd = choices(order, 0);
            int qEnd = choices(order, 1);
            int rEnd = choices(order, 2);
            for (int p = 0; p < pEnd; p++) {
                leafBits[0] = order.bitsOf[p];
                for (int q = 0; q < qEnd; q++) {
                    leafBits[1] = order.bitsOf[q];
                    for (int r = 0; r < rEnd; r++) {
                        leafBits[2] = order.bitsOf[r];
                        if (bitsOfValue(order) != all) {
                            return (p * MOST_SETS + q) * MOST_SETS + r;
                        }
                    }
                }
            }
            return NONE;
        }

        static int unpack(int packed, int variable) {
            int rest = packed;
            for (int v = VARIABLES - 1; v > variable; v--) {
                rest /= MOST_SETS;
            }
            return rest % MOST_SETS;
        }

        int valuationsWith(Poset order, int bits) {
            int count = 0;
            int pEnd = choices(order, 0);
            int qEnd = choices(order, 1);
            int rEnd = choices(order, 2);
            for (int p = 0; p < pEnd; p++) {
                leafBits[0] = order.bitsOf[p];
                for (int q = 0; q < qEnd; q++) {
                    leafBits[1] = order.bitsOf[q];
                    for (int r = 0; r < rEnd; r++) {
                        leafBits[2] = order.bitsOf[r];
                        if (bitsOfValue(order) == bits) {
                            count++;
                        }
                    }
                }
            }
            return count;
        }

        /** The value by the valuation that stands in leafBits. */
        private int bitsOfValue(Poset order) {
            leafBits[SIGN_BOTTOM] = 0;
            leafBits[SIGN_TOP] = order.allPoints();
            int height = 0;
            for (int i = 0; i < size; i++) {
                int sign = signs[i];
                if (sign < LEAVES) {
                    stack[height] = leafBits[sign];
                    height++;
                } else if (sign == SIGN_NOT && height > 0) {
                    stack[height - 1] = order.implication(stack[height - 1], 0);
                } else if (height > 1) {
                    height--;
                    stack[height - 1] = joined(order, sign, stack[height - 1], stack[height]);
                }
            }
            return height > 0 ? stack[height - 1] : 0;
        }

        private static int joined(Poset order, int sign, int a, int b) {
            if (sign == SIGN_AND) {
                return a & b;
            }
            return sign == SIGN_OR ? a | b : order.implication(a, b);
        }
    }

    /** The text buffer, and the reader that makes signs in postfix order of it. */
    private static final class Text {
        // Binds less than all operators, so that no operator in front of it is taken too early.
        private static final int OPEN = 0;

        int length = 0;
        final int[] characters = new int[MOST_TEXT];
        int signCount = 0;
        final int[] signs = new int[MOST_TEXT];
        private final int[] waiting = new int[MOST_TEXT];
        private int waitingCount = 0;
        private int openParentheses = 0;
        private int openSigns = 0;
        private boolean factorDue = true;

        /** Returns the error position, or NO_SIGN if the text is a formula. */
        int readFormula() {
            signCount = 0;
            waitingCount = 0;
            openParentheses = 0;
            openSigns = 0;
            factorDue = true;
            for (int i = 0; i < length; i++) {
                boolean taken = factorDue ? takeInFactor(characters[i]) : takeBehindFactor(characters[i]);
                if (!taken) {
                    return i;
                }
            }
            if (factorDue || openParentheses > 0) {
                return length;
            }
            releaseAbove(OPEN);
            return NO_SIGN;
        }

        private boolean takeInFactor(int character) {
            int leaf = leafOf(character);
            if (leaf != NO_SIGN) {
                emit(leaf);
                endFactor();
                return true;
            }
            if (character != '(' && character != '~' || openSigns >= MOST_OPEN) {
                return false;
            }
            openSigns++;
            if (character == '(') {
                openParentheses++;
            }
            hold(character == '(' ? OPEN : SIGN_NOT);
            return true;
        }

        private boolean takeBehindFactor(int character) {
            if (character == ')') {
                return closeParenthesis();
            }
            int operator = operatorOf(character);
            if (operator == NO_SIGN) {
                return false;
            }
            // Equal signs wait: ">" groups to the right, and for "&" and "|" the value is the same.
            releaseAbove(operator);
            hold(operator);
            factorDue = true;
            return true;
        }

        private boolean closeParenthesis() {
            if (openParentheses == 0) {
                return false;
            }
            releaseAbove(OPEN);
            if (waitingCount > 0) {
                waitingCount--;
            }
            openParentheses--;
            openSigns--;
            endFactor();
            return true;
        }

        /** With a factor also the signs "~" right in front of it end. */
        private void endFactor() {
            factorDue = false;
            while (waitingCount > 0 && waiting[waitingCount - 1] == SIGN_NOT) {
                waitingCount--;
                openSigns--;
                emit(SIGN_NOT);
            }
        }

        private void releaseAbove(int sign) {
            while (waitingCount > 0 && waiting[waitingCount - 1] > sign) {
                waitingCount--;
                emit(waiting[waitingCount]);
            }
        }

        private void emit(int sign) {
            if (signCount < MOST_TEXT) {
                signs[signCount] = sign;
                signCount++;
            }
        }

        private void hold(int sign) {
            if (waitingCount < MOST_TEXT) {
                waiting[waitingCount] = sign;
                waitingCount++;
            }
        }

        private static int leafOf(int character) {
            switch (character) {
                case 'p':
                    return 0;
                case 'q':
                    return 1;
                case 'r':
                    return 2;
                case '0':
                    return SIGN_BOTTOM;
                case '1':
                    return SIGN_TOP;
                default:
                    return NO_SIGN;
            }
        }

        private static int operatorOf(int character) {
            switch (character) {
                case '>':
                    return SIGN_IMPLIES;
                case '|':
                    return SIGN_OR;
                case '&':
                    return SIGN_AND;
                default:
                    return NO_SIGN;
            }
        }
    }

    /** The subalgebra that was found last; it keeps no poset, because that one may change. */
    private static final class Subalgebra {
        int elements = 0;
        // 0 stands for an element that is not in the subalgebra.
        final long[] cost = new long[MOST_SETS];
        final int[] operator = new int[MOST_SETS];
        final int[] first = new int[MOST_SETS];
        final int[] second = new int[MOST_SETS];
        int settledCount = 0;
        private final int[] settled = new int[MOST_SETS];
        private final boolean[] isSettled = new boolean[MOST_SETS];

        void start(Poset order) {
            elements = order.elements;
            settledCount = 0;
            for (int i = 0; i < elements; i++) {
                cost[i] = 0;
                operator[i] = NO_STEP;
                first[i] = NONE;
                second[i] = NONE;
                isSettled[i] = false;
            }
            cost[0] = 1;
            cost[elements - 1] = 1;
        }

        /** A result costs more than its parts, so the cheapest element left can get no cheaper. */
        void findCosts(Poset order) {
            for (int round = 0; round < elements; round++) {
                int cheapest = cheapestLeft();
                if (cheapest < 0) {
                    return;
                }
                isSettled[cheapest] = true;
                settled[settledCount] = cheapest;
                settledCount++;
                for (int i = 0; i < settledCount; i++) {
                    offerAll(order, cheapest, settled[i]);
                }
            }
        }

        private int cheapestLeft() {
            int best = -1;
            for (int i = 0; i < elements; i++) {
                if (!isSettled[i] && cost[i] > 0 && (best < 0 || cost[i] < cost[best])) {
                    best = i;
                }
            }
            return best;
        }

        private void offerAll(Poset order, int x, int y) {
            long price = 1 + cost[x] + cost[y];
            offer(order.resultOf(STEP_MEET, x, y), price);
            offer(order.resultOf(STEP_JOIN, x, y), price);
            offer(order.resultOf(STEP_IMPLIES, x, y), price);
            offer(order.resultOf(STEP_IMPLIES, y, x), price);
        }

        private void offer(int element, long price) {
            if (element >= 0 && (cost[element] == 0 || price < cost[element])) {
                cost[element] = price;
            }
        }

        void findSteps(Poset order) {
            for (int step = STEP_MEET; step <= STEP_IMPLIES; step++) {
                for (int x = 0; x < elements; x++) {
                    for (int y = 0; y < elements; y++) {
                        if (cost[x] > 0 && cost[y] > 0) {
                            noteStep(order.resultOf(step, x, y), step, x, y);
                        }
                    }
                }
            }
        }

        private void noteStep(int element, int step, int x, int y) {
            boolean open = element >= 0 && operator[element] == NO_STEP;
            if (open && cost[element] == 1 + cost[x] + cost[y]) {
                operator[element] = step;
                first[element] = x;
                second[element] = y;
            }
        }
    }

    /** A search through the maps of one kind, in lexicographic order. */
    private static final class MapSearch {
        final Poset source;
        final Poset target;
        private final int kind;
        final boolean onlyFirst;
        final int[] images = new int[MOST_POINTS];
        int count = 0;

        MapSearch(Poset source, Poset target, int kind, boolean onlyFirst) {
            this.source = source;
            this.target = target;
            this.kind = kind;
            this.onlyFirst = onlyFirst;
        }

        boolean fitsEarlier(int point) {
            for (int x = 0; x < point; x++) {
                if (!fitsOneWay(x, point) || !fitsOneWay(point, x)) {
                    return false;
                }
            }
            return true;
        }

        private boolean fitsOneWay(int x, int y) {
            boolean before = source.below(x, y);
            boolean behind = target.below(images[x], images[y]);
            return kind == KIND_EMBEDDING ? before == behind : !before || behind;
        }

        void countIfAccepted() {
            boolean bounded = kind == KIND_BOUNDED || kind == KIND_BOUNDED_ONTO;
            if (bounded && !isBounded()) {
                return;
            }
            if (kind == KIND_BOUNDED_ONTO && imagesOf(source.allPoints()) != target.allPoints()) {
                return;
            }
            count++;
        }

        private boolean isBounded() {
            for (int x = 0; x < source.size; x++) {
                if ((target.above[images[x]] & ~imagesOf(source.above[x])) != 0) {
                    return false;
                }
            }
            return true;
        }

        private int imagesOf(int set) {
            int bits = 0;
            for (int x = 0; x < source.size; x++) {
                if ((set >> x & 1) != 0) {
                    bits |= 1 << images[x];
                }
            }
            return bits;
        }

        int digits() {
            int number = 0;
            for (int x = 0; x < source.size; x++) {
                number = number * 10 + images[x];
            }
            return number;
        }
    }

    /** A row of numbers that are kept as their element type narrows them. */
    private static final class Row {
        static final int BYTES = 0;
        static final int SHORTS = 1;
        static final int INTS = 2;

        int type = INTS;
        int length = -1;
        final int[] data = new int[MOST_ROW_ELEMENTS];

        boolean isMissing() {
            return length < 0;
        }

        boolean hasIndex(int index) {
            return index >= 0 && index < length;
        }

        /** Compared by a difference, because a sum of huge arguments would wrap around. */
        boolean hasRange(int start, int count) {
            return start >= 0 && count >= 0 && count <= length && start <= length - count;
        }

        void replaceRow(int newType, int newLength) {
            type = newType;
            length = newLength;
            for (int i = 0; i < MOST_ROW_ELEMENTS; i++) {
                data[i] = 0;
            }
        }

        int narrowed(int value) {
            if (type == BYTES) {
                return (byte) value;
            }
            return type == SHORTS ? (short) value : value;
        }
    }
}
