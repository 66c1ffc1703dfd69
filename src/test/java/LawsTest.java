/**
 * What is known of finite orders and Heyting algebras from elsewhere, on every order of up to 6 points whose
 * points are numbered upwards: each order looks like one of these. The other tests have their answers
 * from the same readers as the class; these theorems and counts have not.
 */
public final class LawsTest {
    private static final int MOST_POINTS = 6;
    // An object is used for at most 512 calls; a fresh one stands in for it in time.
    private static final int ENOUGH_CALLS = 500;

    // How many orders of 1 to 6 points there are: numbered upwards, with any numbers, and without numbers.
    private static final int[] UPWARDS = {1, 2, 7, 40, 357, 4824};
    private static final int[] NUMBERED = {1, 3, 19, 219, 4231, 130023};
    private static final int[] SHAPES = {1, 2, 5, 16, 63, 318};
    private static final int[] FACTORIAL = {1, 2, 6, 24, 120, 720};

    private static final String[] VALID = {"p>p", "p>q>p", "0>p", "p>1", "p&q>p", "p>p|q", "p>~~p", "~~~p>~p",
        "~(p|q)>~p&~q", "~~(p|~p)", "(p>q)>~q>~p", "p&(p>q)>q", "~p|q>p>q", "((p>q)>p)>~~p"};
    private static final String[] REFUTED = {"p", "~p", "p>q", "p&~p", "~~(p&q)", "p|q"};

    /** An order, and an object that has it as its poset 0. */
    private static final class Order {
        final int n;
        final boolean[][] le;
        private ImplicationAlgebras bench;
        private int used;

        Order(int n, boolean[][] le) {
            this.n = n;
            this.le = le;
            bench = fresh();
        }

        ImplicationAlgebras fresh() {
            ImplicationAlgebras made = new ImplicationAlgebras();
            place(made, 0);
            return made;
        }

        void place(ImplicationAlgebras bench, int poset) {
            bench.reset(poset, n);
            for (int x = 0; x < n; x++) {
                for (int y = 0; y < n; y++) {
                    if (x != y && le[x][y]) {
                        bench.relate(poset, x, y);
                    }
                }
            }
        }

        /** The object for one call that changes nothing. */
        ImplicationAlgebras ask() {
            used++;
            if (used > ENOUGH_CALLS - n * n) {
                bench = fresh();
                used = 0;
            }
            return bench;
        }

        @Override
        public String toString() {
            StringBuilder text = new StringBuilder(n + " points");
            for (int x = 0; x < n; x++) {
                for (int y = 0; y < n; y++) {
                    text.append(x != y && le[x][y] ? " " + x + "<" + y : "");
                }
            }
            return text.toString();
        }
    }

    private static final Order[] shapes = new Order[SHAPES[MOST_POINTS - 1]];
    private static int shapeCount;

    public static void main(String[] args) {
        for (int n = 1; n <= MOST_POINTS; n++) {
            shapeCount = 0;
            int found = 0;
            int pairs = n * (n - 1) / 2;
            for (int chosen = 0; chosen < 1 << pairs; chosen++) {
                Order order = orderOf(n, chosen);
                if (order != null) {
                    found++;
                    look(order);
                }
            }
            Calls.due("orders of points numbered upwards", n + " points", found, UPWARDS[n - 1]);
            Calls.due("shapes of orders", n + " points", shapeCount, SHAPES[n - 1]);
            countNumbered(n);
        }
        Calls.end();
    }

    /** The order whose pairs are chosen, or null if more pairs follow from them. */
    private static Order orderOf(int n, int chosen) {
        ImplicationAlgebras bench = new ImplicationAlgebras();
        bench.reset(0, n);
        boolean[][] le = new boolean[n][n];
        int bit = 0;
        int last = 0;
        for (int x = 0; x < n; x++) {
            le[x][x] = true;
            for (int y = x + 1; y < n; y++) {
                if ((chosen >> bit & 1) == 1) {
                    le[x][y] = true;
                    last = bench.relate(0, x, y);
                }
                bit++;
            }
        }
        return last == Integer.bitCount(chosen) ? new Order(n, le) : null;
    }

    private static void look(Order order) {
        int[] bits = bitsOf(order);
        elements(order, bits);
        covers(order);
        implications(order, bits);
        filters(order, bits);
        maps(order, bits);
        if (isNewShape(order)) {
            validity(order, bits.length);
            sums(order, bits.length);
            terms(order, bits.length);
        }
    }

    private static int[] bitsOf(Order order) {
        int[] bits = new int[order.ask().elementCount(0)];
        for (int e = 0; e < bits.length; e++) {
            bits[e] = order.ask().elementBits(0, e);
        }
        return bits;
    }

    private static void elements(Order order, int[] bits) {
        for (int e = 1; e < bits.length; e++) {
            int more = Integer.bitCount(bits[e]) - Integer.bitCount(bits[e - 1]);
            Calls.expect(more > 0 || more == 0 && bits[e] > bits[e - 1], order + ": the place of element " + e);
        }
        int antichains = 0;
        int largest = 0;
        int longest = 0;
        for (int set = 0; set < 1 << order.n; set++) {
            if (hasOnly(order, set, false)) {
                antichains++;
                largest = Math.max(largest, Integer.bitCount(set));
            }
            if (hasOnly(order, set, true)) {
                longest = Math.max(longest, Integer.bitCount(set));
            }
        }
        // An up-set is told by its least points, which can be any antichain.
        Calls.due(order + ": up-sets are as many as antichains", "elementCount", bits.length, antichains);
        Calls.due(order + "", "the largest antichain", order.ask().property(0, 1), largest);
        Calls.due(order + "", "the largest chain", order.ask().property(0, 0), longest);
        ImplicationAlgebras bench = order.fresh();
        bench.dual(0, 1);
        Calls.due(order + ": the dual has as many elements", "elementCount", bench.elementCount(1), bits.length);
        Calls.due(order + ": greatest points are least ones of the dual", "property", bench.property(1, 2), bench.property(0, 3));
    }

    private static boolean hasOnly(Order order, int set, boolean related) {
        for (int x = 0; x < order.n; x++) {
            for (int y = x + 1; y < order.n; y++) {
                if ((set >> x & set >> y & 1) == 1 && order.le[x][y] != related) {
                    return false;
                }
            }
        }
        return true;
    }

    /** The pairs of a point and a cover are the fewest from which the order follows: none can be left out. */
    private static void covers(Order order) {
        int pairs = order.ask().property(0, 5);
        Calls.due(order + "", "pairs that follow from the covers", pairsWithout(order, -1, -1), pairs);
        for (int x = 0; x < order.n; x++) {
            for (int y = 0; y < order.n; y++) {
                if ((order.ask().covers(0, x) >> y & 1) == 1) {
                    Calls.expect(pairsWithout(order, x, y) < pairs, order + ": " + y + " does not cover " + x);
                }
            }
        }
    }

    private static int pairsWithout(Order order, int low, int high) {
        ImplicationAlgebras bench = new ImplicationAlgebras();
        bench.reset(0, order.n);
        for (int x = 0; x < order.n; x++) {
            int covers = order.ask().covers(0, x);
            for (int y = 0; y < order.n; y++) {
                if ((covers >> y & 1) == 1 && (x != low || y != high)) {
                    bench.relate(0, x, y);
                }
            }
        }
        return bench.property(0, 5);
    }

    /** c is within a -> b if and only if the meet of a and c is within b. */
    private static void implications(Order order, int[] bits) {
        boolean holds = true;
        for (int a = 0; a < bits.length; a++) {
            for (int b = 0; b < bits.length; b++) {
                int implied = bits[order.ask().implies(0, a, b)];
                for (int c : bits) {
                    holds &= (c & ~implied) == 0 == ((bits[a] & c & ~bits[b]) == 0);
                }
            }
        }
        Calls.expect(holds, order + ": meet and implication do not belong together");
    }

    private static void filters(Order order, int[] bits) {
        int primes = 0;
        for (int m = 0; m < bits.length; m++) {
            primes += order.ask().isPrime(0, m);
            int classes = 0;
            for (int e = 0; e < bits.length; e++) {
                classes += order.ask().filterClass(0, m, e) == e ? 1 : 0;
            }
            Calls.due(order + ": lowest elements are as many as classes", "quotientSize", order.ask().quotientSize(0, m), classes);
            if (m > 0) {
                ImplicationAlgebras bench = order.fresh();
                bench.restrict(0, m, 1);
                Calls.due(order + ": the quotient by " + m + " is the algebra of its points", "elementCount",
                        bench.elementCount(1), classes);
            }
        }
        Calls.due(order + ": prime filters are as many as points", "isPrime", primes, order.n);
    }

    private static void maps(Order order, int[] bits) {
        int greatest = 0;
        for (int x = 0; x < order.n; x++) {
            greatest |= order.ask().covers(0, x) == 0 ? 1 << x : 0;
        }
        int containing = 0;
        for (int set : bits) {
            containing += (set & greatest) == greatest ? 1 : 0;
        }
        int colours = 1 << order.ask().property(0, 4);
        ImplicationAlgebras bench = order.fresh();
        bench.reset(1, 2);
        bench.reset(2, 2);
        bench.relate(2, 0, 1);
        String title = order + "";
        Calls.due(title, "maps to a chain of 2 are up-sets", bench.countMaps(0, 2, 0), bits.length);
        Calls.due(title, "bounded ones contain the greatest points", bench.countMaps(0, 2, 1), containing);
        Calls.due(title, "all but one of them reach both points", bench.countMaps(0, 2, 2), containing - 1);
        Calls.due(title, "maps to 2 points colour the components", bench.countMaps(0, 1, 0), colours);
        Calls.due(title, "all of them are bounded", bench.countMaps(0, 1, 1), colours);
        Calls.due(title, "all but two of them reach both points", bench.countMaps(0, 1, 2), colours - 2);
        Calls.due(title, "maps from a point are points", bench.countMaps(3, 0, 0), order.n);
        Calls.due(title, "bounded ones are greatest points", bench.countMaps(3, 0, 1), Integer.bitCount(greatest));
        Calls.due(title, "one map to a point", bench.countMaps(0, 3, 2), 1);
        Calls.due(title, "embeddings of a chain of 2 are pairs", bench.countMaps(2, 0, 3), bench.property(0, 5));
        Calls.due(title, "embeddings of 2 points are the other pairs", bench.countMaps(1, 0, 3),
                order.n * (order.n - 1) - 2 * bench.property(0, 5));
    }

    private static boolean isNewShape(Order order) {
        for (int i = 0; i < shapeCount; i++) {
            ImplicationAlgebras bench = order.fresh();
            shapes[i].place(bench, 1);
            if (bench.isIsomorphic(0, 1) == 1) {
                return false;
            }
        }
        if (shapeCount < shapes.length) {
            shapes[shapeCount] = order;
        }
        shapeCount++;
        return true;
    }

    /** A shape can be numbered in n! ways, of which those are the same that an embedding into itself takes to each other. */
    private static void countNumbered(int n) {
        int count = 0;
        for (int i = 0; i < Math.min(shapeCount, shapes.length); i++) {
            int same = shapes[i].ask().countMaps(0, 0, 3);
            Calls.expect(same > 0 && FACTORIAL[n - 1] % same == 0, shapes[i] + ": embeddings into itself");
            count += same > 0 ? FACTORIAL[n - 1] / same : 0;
        }
        Calls.due("orders of points with any numbers", n + " points", count, NUMBERED[n - 1]);
    }

    private static void validity(Order order, int elements) {
        for (String text : VALID) {
            expectValidity(order, text, true);
        }
        for (String text : REFUTED) {
            expectValidity(order, text, false);
        }
        expectValidity(order, "p|~p", order.ask().property(0, 0) == 1);
        expectValidity(order, "((p>q)>p)>p", order.ask().property(0, 0) == 1);
        expectValidity(order, "p|(p>q|~q)", order.ask().property(0, 0) <= 2);
        expectValidity(order, "~p|~~p", aboveEach(order, 2, true));
        expectValidity(order, "(p>q)|(q>p)", aboveEach(order, 2, false));
        if (elements * elements * elements <= 20000) {
            expectValidity(order, "(p>q>r)>(p>q)>p>r", true);
            expectValidity(order, "(p>q|r)|(q>p|r)|(r>p|q)", aboveEach(order, 3, false));
            expectValidity(order, "p|(p>q|(q>r|~r))", order.ask().property(0, 0) <= 3);
        } else {
            ImplicationAlgebras bench = order.fresh();
            Calls.due(order + "", "too many valuations", ask(bench, "p|q|r"), ImplicationAlgebras.TOO_LARGE);
        }
    }

    private static int ask(ImplicationAlgebras bench, String text) {
        for (char c : text.toCharArray()) {
            bench.append(c);
        }
        bench.parse(0);
        return bench.isValid(0, 0);
    }

    private static void expectValidity(Order order, String text, boolean valid) {
        ImplicationAlgebras bench = order.fresh();
        Calls.due(order + "", text, ask(bench, text), valid ? 1 : 0);
        for (int v = 0; v < 3; v++) {
            int element = bench.refutation(0, 0, v);
            Calls.expect(valid ? element == ImplicationAlgebras.NONE : element >= 0, order + ": the refutation of " + text);
            if (!valid) {
                bench.setValue(0, v, element);
            }
        }
        int top = bench.elementCount(0) - 1;
        Calls.expect(valid || bench.value(0, 0) != top, order + ": the refutation of " + text + " does not refute");
        int all = 0;
        for (int e = 0; e <= top; e++) {
            all += bench.countValuations(0, 0, e);
        }
        int due = 1;
        for (char c = 'p'; c <= 'r'; c++) {
            due *= text.indexOf(c) >= 0 ? top + 1 : 1;
        }
        Calls.due(order + ": the valuations of all values together", text, all, due);
        Calls.expect(valid == (bench.countValuations(0, 0, top) == due), order + ": the valuations with top of " + text);
    }

    /** Whether no point has so many points above it of which none are related, perhaps counting greatest points only. */
    private static boolean aboveEach(Order order, int count, boolean greatestOnly) {
        for (int set = 0; set < 1 << order.n; set++) {
            boolean found = Integer.bitCount(set) == count && hasOnly(order, set, false);
            for (int x = 0; x < order.n && greatestOnly; x++) {
                found &= (set >> x & 1) == 0 || order.ask().covers(0, x) == 0;
            }
            for (int low = 0; low < order.n && found; low++) {
                boolean belowAll = true;
                for (int x = 0; x < order.n; x++) {
                    belowAll &= (set >> x & 1) == 0 || order.le[low][x];
                }
                if (belowAll) {
                    return false;
                }
            }
        }
        return true;
    }

    private static void sums(Order order, int elements) {
        ImplicationAlgebras bench = order.fresh();
        bench.reset(1, 2);
        boolean fits = order.n + 2 <= MOST_POINTS;
        int refused = ImplicationAlgebras.TOO_LARGE;
        String title = order + "";
        Calls.due(title, "sum", bench.sum(0, 1, 0, 2), fits ? order.n + 2 : refused);
        Calls.due(title, "linear sum", bench.sum(0, 1, 1, 3), fits ? order.n + 2 : refused);
        Calls.due(title, "elements of the sum", bench.elementCount(2), fits ? elements * 4 : 2);
        Calls.due(title, "elements of the linear sum", bench.elementCount(3), fits ? elements + 3 : 2);
        bench.sum(1, 0, 0, 3);
        Calls.due(title, "the sum the other way round", bench.isIsomorphic(2, 3), 1);
        boolean fitsTwice = order.n * 2 <= MOST_POINTS;
        Calls.due(title, "product with 2 points", bench.product(1, 0, 3), fitsTwice ? 2 * order.n : refused);
        bench.sum(0, 0, 0, 2);
        Calls.due(title, "which is the sum with itself", bench.isIsomorphic(2, 3), 1);
        bench.product(0, 1, 3);
        Calls.due(title, "the product the other way round", bench.isIsomorphic(2, 3), 1);
    }

    private static void terms(Order order, int elements) {
        expectTerms(order, elements);
        for (int g = 0; g < elements; g++) {
            expectTerms(order, elements, g);
            expectTerms(order, elements, g, elements - 1 - g);
            expectTerms(order, elements, g, (g * 5 + 1) % elements, (g * 3 + 2) % elements, g);
        }
    }

    /** No result costs more than its price, and each step has the price of its element: this fits only the least costs. */
    private static void expectTerms(Order order, int elements, int... generators) {
        ImplicationAlgebras bench = order.fresh();
        for (int g : generators) {
            bench.addGenerator(g);
        }
        int size = bench.generate(0);
        long[][] term = new long[elements][4];
        int[] due = new int[elements];
        int found = 0;
        for (int e = 0; e < elements; e++) {
            for (int what = 0; what < 4; what++) {
                term[e][what] = bench.term(e, what);
            }
            found += term[e][0] > 0 ? 1 : 0;
            boolean given = e == 0 || e == elements - 1;
            for (int g : generators) {
                given |= g == e;
            }
            Calls.expect(given == (term[e][0] == 1), order + ": the cost of " + e);
            due[e] = given ? 3 : -1;
        }
        Calls.due(order + "", "generate", found, size);
        Calls.due(order + "", "no generators", generators.length == 0 ? size : 2, 2);
        for (int operator = 0; operator < 3; operator++) {
            for (int x = 0; x < elements; x++) {
                for (int y = 0; y < elements; y++) {
                    if (term[x][0] > 0 && term[y][0] > 0) {
                        int result = result(order, operator, x, y);
                        long price = 1 + term[x][0] + term[y][0];
                        Calls.expect(term[result][0] > 0 && term[result][0] <= price, order + ": the cost of " + result);
                        if (price == term[result][0] && due[result] < 0) {
                            due[result] = operator;
                            Calls.expect(term[result][1] == operator && term[result][2] == x && term[result][3] == y,
                                    order + ": the step of " + result);
                        }
                    }
                }
            }
        }
        for (int e = 0; e < elements; e++) {
            Calls.expect(term[e][0] < 0 || term[e][1] == due[e], order + ": the operator of " + e);
        }
    }

    private static int result(Order order, int operator, int x, int y) {
        if (operator == 0) {
            return order.ask().meet(0, x, y);
        }
        return operator == 1 ? order.ask().join(0, x, y) : order.ask().implies(0, x, y);
    }
}
