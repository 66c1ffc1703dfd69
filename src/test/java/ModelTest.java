import java.util.ArrayList;
import java.util.Arrays;
import java.util.List;
import java.util.Random;

/**
 * Runs of chosen calls, each answered a second time by a slow model that follows the words of the
 * document: sets as boolean rows, definitions tried out on all candidates. The seeds are fixed.
 */
public final class ModelTest {
    private static final int RUNS = 400;
    private static final int CALLS = 512;

    private static int wrong = 0;

    public static void main(String[] args) {
        for (int seed = 0; seed < RUNS && wrong < 10; seed++) {
            new Run(seed).go();
        }
        System.out.println(wrong == 0 ? "the model agrees" : wrong + " answers differ from the model");
        if (wrong != 0) {
            System.exit(1);
        }
    }

    private static final class Run {
        final int seed;
        final Random random;
        final ImplicationAlgebras real = new ImplicationAlgebras();
        final Model model = new Model();
        final List<String> log = new ArrayList<>();
        boolean bad = false;

        Run(int seed) {
            this.seed = seed;
            this.random = new Random(seed);
        }

        void check(String call, long got, long want) {
            log.add(call + " -> " + got);
            if (got != want && !bad) {
                bad = true;
                wrong++;
                System.out.println("seed " + seed + ", call " + log.size() + ": " + call + " answered " + got
                        + ", the model " + want);
                System.out.println("  before: " + log.subList(Math.max(0, log.size() - 25), log.size()));
            }
        }

        int pick(int end) {
            int dice = random.nextInt(60);
            if (dice == 0) {
                return -1;
            }
            if (dice == 1) {
                return end;
            }
            if (dice == 2) {
                int[] far = {Integer.MIN_VALUE, Integer.MAX_VALUE, -2, 64, 31, 32, 33, 100, 1 << 16};
                return far[random.nextInt(far.length)];
            }
            return random.nextInt(end);
        }

        int poset() {
            return pick(4);
        }

        int elementFor(int p) {
            return pick(p >= 0 && p < 4 ? model.ups(p).size() : 5);
        }

        int pointFor(int p) {
            return pick(p >= 0 && p < 4 ? model.n[p] : 5);
        }

        void go() {
            while (log.size() < CALLS && !bad) {
                step();
            }
        }

        void step() {
            int p = poset();
            switch (random.nextInt(44)) {
                case 0: reset(p, random.nextInt(4) == 0 ? pick(8) : 1 + random.nextInt(6)); break;
                case 1: case 2: case 3: case 4: relate(p, pointFor(p), pointFor(p)); break;
                case 5: order(p); break;
                case 6: elements(p); break;
                case 7: case 8: combine(p, elementFor(p), elementFor(p)); break;
                case 9: case 10: case 11: case 12: text(); break;
                case 13: clearText(); break;
                case 14: formulaSize(pick(6)); break;
                case 15: case 16: substitute(pick(6), pick(3), pick(6), pick(6)); break;
                case 17: case 18: case 19: setValue(p, pick(3), elementFor(p)); break;
                case 20: case 21: value(p, pick(6), pointFor(p)); break;
                case 22: case 23: validity(p, pick(6), pick(3), elementFor(p)); break;
                case 24: case 25: filters(p, elementFor(p), elementFor(p)); break;
                case 26: case 27: addGenerator(random.nextInt(3) == 0 ? pick(64) : elementFor(p)); break;
                case 28: if (random.nextInt(3) == 0) { clearGenerators(); } break;
                case 29: case 30: generate(p); break;
                case 31: case 32: maps(p, poset(), pick(4)); break;
                case 33: sum(p, poset(), pick(2), poset()); break;
                case 34: product(p, poset(), poset()); break;
                case 35: restrict(p, elementFor(p), poset()); break;
                case 36: dual(p, poset()); break;
                case 37: allocate(pick(3), pick(3), random.nextInt(3) == 0 ? random.nextInt(8) - 2 : pick(32)); break;
                case 38: case 39: fill(pick(3)); break;
                case 40: copy(); break;
                case 41: store(pick(3), p); break;
                default: load(pick(3), p); break;
            }
        }

        void reset(int p, int count) {
            check("reset(" + p + "," + count + ")", real.reset(p, count), model.reset(p, count));
        }

        void relate(int p, int a, int b) {
            check("relate(" + p + "," + a + "," + b + ")", real.relate(p, a, b), model.relate(p, a, b));
        }

        void order(int p) {
            int a = pointFor(p);
            int b = pointFor(p);
            check("points(" + p + ")", real.points(p), model.points(p));
            check("isBelow(" + p + "," + a + "," + b + ")", real.isBelow(p, a, b), model.isBelow(p, a, b));
            check("covers(" + p + "," + a + ")", real.covers(p, a), model.covers(p, a));
            for (int what = -1; what <= 6; what++) {
                check("property(" + p + "," + what + ")", real.property(p, what), model.property(p, what));
            }
        }

        void elements(int p) {
            int e = elementFor(p);
            int bits = random.nextInt(4) == 0 ? pick(64) : pick(16);
            check("elementCount(" + p + ")", real.elementCount(p), model.elementCount(p));
            check("elementBits(" + p + "," + e + ")", real.elementBits(p, e), model.elementBits(p, e));
            check("elementOf(" + p + "," + bits + ")", real.elementOf(p, bits), model.elementOf(p, bits));
        }

        void combine(int p, int a, int b) {
            check("meet(" + p + "," + a + "," + b + ")", real.meet(p, a, b), model.operate(p, a, b, 0));
            check("join(" + p + "," + a + "," + b + ")", real.join(p, a, b), model.operate(p, a, b, 1));
            check("implies(" + p + "," + a + "," + b + ")", real.implies(p, a, b), model.operate(p, a, b, 2));
        }

        void text() {
            StringBuilder made = new StringBuilder();
            makeFormula(made, 1 + random.nextInt(4));
            if (random.nextInt(4) == 0 && made.length() > 0) {
                String signs = "pqr01~(()&|>x! ";
                int at = random.nextInt(made.length());
                char c = signs.charAt(random.nextInt(signs.length()));
                switch (random.nextInt(3)) {
                    case 0: made.setCharAt(at, c); break;
                    case 1: made.insert(at, c); break;
                    default: made.deleteCharAt(at); break;
                }
            }
            if (random.nextInt(12) == 0) {
                made = new StringBuilder("~(~(~~((~(~p)))))".substring(0, random.nextInt(17))).append(made);
            }
            if (made.length() > 42) {
                made.setLength(42);
            }
            for (int i = 0; i < made.length(); i++) {
                int c = made.charAt(i);
                check("append(" + c + ")", real.append(c), model.append(c));
            }
            if (random.nextInt(20) == 0) {
                int c = random.nextInt(140) - 5;
                check("append(" + c + ")", real.append(c), model.append(c));
            }
            int f = pick(6);
            check("parse(" + f + ")", real.parse(f), model.parse(f));
        }

        void makeFormula(StringBuilder out, int depth) {
            if (depth == 0 || random.nextInt(5) == 0) {
                out.append("pqrpqr01".charAt(random.nextInt(8)));
                return;
            }
            switch (random.nextInt(6)) {
                case 0:
                    out.append('~');
                    makeFactor(out, depth - 1);
                    break;
                case 1:
                    out.append('(');
                    makeFormula(out, depth - 1);
                    out.append(')');
                    break;
                default:
                    if (random.nextBoolean()) {
                        makeFactor(out, depth - 1);
                    } else {
                        makeFormula(out, depth - 1);
                    }
                    out.append("&|>>".charAt(random.nextInt(4)));
                    makeFormula(out, depth - 1);
                    break;
            }
        }

        void makeFactor(StringBuilder out, int depth) {
            out.append('(');
            makeFormula(out, depth);
            out.append(')');
        }

        void clearText() {
            check("clearText()", real.clearText(), model.clearText());
        }

        void formulaSize(int f) {
            check("formulaSize(" + f + ")", real.formulaSize(f), model.formulaSize(f));
        }

        void substitute(int f, int v, int by, int to) {
            check("substitute(" + f + "," + v + "," + by + "," + to + ")",
                    real.substitute(f, v, by, to), model.substitute(f, v, by, to));
        }

        void setValue(int p, int v, int e) {
            check("setValue(" + p + "," + v + "," + e + ")", real.setValue(p, v, e), model.setValue(p, v, e));
        }

        void value(int p, int f, int x) {
            check("value(" + p + "," + f + ")", real.value(p, f), model.value(p, f));
            check("isForced(" + p + "," + f + "," + x + ")", real.isForced(p, f, x), model.isForced(p, f, x));
        }

        void validity(int p, int f, int v, int e) {
            check("isValid(" + p + "," + f + ")", real.isValid(p, f), model.isValid(p, f));
            check("refutation(" + p + "," + f + "," + v + ")", real.refutation(p, f, v), model.refutation(p, f, v));
            check("countValuations(" + p + "," + f + "," + e + ")",
                    real.countValuations(p, f, e), model.countValuations(p, f, e));
        }

        void filters(int p, int m, int e) {
            check("filterClass(" + p + "," + m + "," + e + ")", real.filterClass(p, m, e), model.filterClass(p, m, e));
            check("quotientSize(" + p + "," + m + ")", real.quotientSize(p, m), model.quotientSize(p, m));
            check("isPrime(" + p + "," + m + ")", real.isPrime(p, m), model.isPrime(p, m));
        }

        void addGenerator(int e) {
            check("addGenerator(" + e + ")", real.addGenerator(e), model.addGenerator(e));
        }

        void clearGenerators() {
            check("clearGenerators()", real.clearGenerators(), model.clearGenerators());
        }

        void generate(int p) {
            check("generate(" + p + ")", real.generate(p), model.generate(p));
            for (int i = 0; i < 8; i++) {
                int e = pick(Math.max(1, model.foundSize));
                int what = pick(4);
                check("term(" + e + "," + what + ")", real.term(e, what), model.term(e, what));
            }
        }

        void maps(int a, int b, int kind) {
            check("countMaps(" + a + "," + b + "," + kind + ")", real.countMaps(a, b, kind), model.countMaps(a, b, kind));
            check("firstMap(" + a + "," + b + "," + kind + ")", real.firstMap(a, b, kind), model.firstMap(a, b, kind));
            check("isIsomorphic(" + a + "," + b + ")", real.isIsomorphic(a, b), model.isIsomorphic(a, b));
        }

        void sum(int a, int b, int kind, int to) {
            check("sum(" + a + "," + b + "," + kind + "," + to + ")", real.sum(a, b, kind, to), model.sum(a, b, kind, to));
        }

        void product(int a, int b, int to) {
            check("product(" + a + "," + b + "," + to + ")", real.product(a, b, to), model.product(a, b, to));
        }

        void restrict(int p, int e, int to) {
            check("restrict(" + p + "," + e + "," + to + ")", real.restrict(p, e, to), model.restrict(p, e, to));
        }

        void dual(int p, int to) {
            check("dual(" + p + "," + to + ")", real.dual(p, to), model.dual(p, to));
        }

        void allocate(int r, int type, int length) {
            check("allocate(" + r + "," + type + "," + length + ")",
                    real.allocate(r, type, length), model.allocate(r, type, length));
        }

        void fill(int r) {
            for (int i = 0; i < 4; i++) {
                int index = pick(random.nextInt(3) == 0 ? 31 : 6);
                int value = random.nextInt(8) == 0 ? random.nextInt() : pick(6);
                check("put(" + r + "," + index + "," + value + ")", real.put(r, index, value), model.put(r, index, value));
                check("rowElement(" + r + "," + index + ")", real.rowElement(r, index), model.rowElement(r, index));
            }
        }

        void copy() {
            int from = pick(3);
            int first = pick(8);
            int to = random.nextBoolean() ? from : pick(3);
            int second = pick(8);
            int count = pick(6);
            check("copyElements(" + from + "," + first + "," + to + "," + second + "," + count + ")",
                    real.copyElements(from, first, to, second, count), model.copy(from, first, to, second, count));
            showRow(to);
        }

        void showRow(int r) {
            for (int i = 0; i < 6; i++) {
                int index = pick(30);
                check("rowElement(" + r + "," + index + ")", real.rowElement(r, index), model.rowElement(r, index));
            }
        }

        void store(int r, int p) {
            check("storeElements(" + r + "," + p + ")", real.storeElements(r, p), model.store(r, p));
            showRow(r);
        }

        void load(int r, int p) {
            check("loadOrder(" + r + "," + p + ")", real.loadOrder(r, p), model.load(r, p));
            check("failure()", real.failure(), model.why);
        }
    }

    /** A formula as a tree: a leaf has no parts, "~" has a right part only. */
    private static final class Tree {
        final char sign;
        final Tree left;
        final Tree right;

        Tree(char sign, Tree left, Tree right) {
            this.sign = sign;
            this.left = left;
            this.right = right;
        }

        int size() {
            return 1 + (left == null ? 0 : left.size()) + (right == null ? 0 : right.size());
        }

        boolean has(char c) {
            return sign == c || left != null && left.has(c) || right != null && right.has(c);
        }

        Tree with(char c, Tree by) {
            if (sign == c) {
                return by;
            }
            return new Tree(sign, left == null ? null : left.with(c, by), right == null ? null : right.with(c, by));
        }
    }

    private static final class Unreadable extends Exception {
        private static final long serialVersionUID = 1L;
        final int position;

        Unreadable(int position) {
            this.position = position;
        }
    }

    /** Recursive descent, a method for each line of the grammar. */
    private static final class Reader {
        final String text;
        int at = 0;
        int open = 0;

        Reader(String text) {
            this.text = text;
        }

        char now() {
            return at < text.length() ? text.charAt(at) : (char) 0;
        }

        Tree whole() throws Unreadable {
            Tree tree = formula();
            if (at < text.length()) {
                throw new Unreadable(at);
            }
            return tree;
        }

        Tree formula() throws Unreadable {
            Tree left = disjunction();
            if (now() != '>') {
                return left;
            }
            at++;
            return new Tree('>', left, formula());
        }

        Tree disjunction() throws Unreadable {
            Tree tree = conjunction();
            while (now() == '|') {
                at++;
                tree = new Tree('|', tree, conjunction());
            }
            return tree;
        }

        Tree conjunction() throws Unreadable {
            Tree tree = factor();
            while (now() == '&') {
                at++;
                tree = new Tree('&', tree, factor());
            }
            return tree;
        }

        Tree factor() throws Unreadable {
            char c = now();
            if (c == '~' || c == '(') {
                if (open == 8) {
                    throw new Unreadable(at);
                }
                open++;
                at++;
                Tree inside = c == '~' ? new Tree('~', null, factor()) : closed(formula());
                open--;
                return inside;
            }
            if (c == 0 || "pqr01".indexOf(c) < 0) {
                throw new Unreadable(at);
            }
            at++;
            return new Tree(c, null, null);
        }

        Tree closed(Tree inside) throws Unreadable {
            if (now() != ')') {
                throw new Unreadable(at);
            }
            at++;
            return inside;
        }
    }

    private static final class Model {
        final int[] n = {1, 1, 1, 1};
        final boolean[][][] le = new boolean[4][6][6];
        final int[][] valuation = new int[4][3];
        String text = "";
        final Tree[] formulas = new Tree[6];
        final List<Integer> generators = new ArrayList<>();
        int foundSize = 0;
        long[] cost = null;
        long[][] steps = null;
        final int[] rowType = new int[3];
        final int[][] rows = new int[3][];
        int why = 0;

        Model() {
            for (int p = 0; p < 4; p++) {
                le[p][0][0] = true;
            }
        }

        boolean poset(int p) {
            return p >= 0 && p < 4;
        }

        boolean point(int p, int x) {
            return x >= 0 && x < n[p];
        }

        boolean element(int p, int e) {
            return e >= 0 && e < ups(p).size();
        }

        void replace(int p, int size, boolean[][] order) {
            n[p] = size;
            le[p] = order;
            Arrays.fill(valuation[p], 0);
        }

        int reset(int p, int count) {
            if (!poset(p)) {
                return -1;
            }
            if (count < 1 || count > 6) {
                return -2;
            }
            int before = n[p];
            boolean[][] order = new boolean[6][6];
            for (int x = 0; x < count; x++) {
                order[x][x] = true;
            }
            replace(p, count, order);
            return before;
        }

        int points(int p) {
            return poset(p) ? n[p] : -1;
        }

        int relate(int p, int a, int b) {
            if (!poset(p) || !point(p, a) || !point(p, b)) {
                return -1;
            }
            if (a != b && le[p][b][a]) {
                return -4;
            }
            le[p][a][b] = true;
            for (int k = 0; k < n[p]; k++) {
                for (int i = 0; i < n[p]; i++) {
                    for (int j = 0; j < n[p]; j++) {
                        le[p][i][j] |= le[p][i][k] && le[p][k][j];
                    }
                }
            }
            Arrays.fill(valuation[p], 0);
            return pairs(p);
        }

        int pairs(int p) {
            int count = 0;
            for (int x = 0; x < n[p]; x++) {
                for (int y = 0; y < n[p]; y++) {
                    count += x != y && le[p][x][y] ? 1 : 0;
                }
            }
            return count;
        }

        int isBelow(int p, int a, int b) {
            if (!poset(p) || !point(p, a) || !point(p, b)) {
                return -1;
            }
            return le[p][a][b] ? 1 : 0;
        }

        int covers(int p, int x) {
            if (!poset(p) || !point(p, x)) {
                return -1;
            }
            int bits = 0;
            for (int y = 0; y < n[p]; y++) {
                boolean cover = y != x && le[p][x][y];
                for (int z = 0; z < n[p]; z++) {
                    cover &= !(z != x && z != y && le[p][x][z] && le[p][z][y]);
                }
                bits |= cover ? 1 << y : 0;
            }
            return bits;
        }

        int property(int p, int what) {
            if (!poset(p)) {
                return -1;
            }
            switch (what) {
                case 0: return largest(p, true);
                case 1: return largest(p, false);
                case 2: return extremes(p, true);
                case 3: return extremes(p, false);
                case 4: return components(p);
                case 5: return pairs(p);
                default: return -2;
            }
        }

        int largest(int p, boolean related) {
            int best = 0;
            for (int set = 0; set < 1 << n[p]; set++) {
                boolean good = true;
                for (int x = 0; x < n[p]; x++) {
                    for (int y = 0; y < n[p]; y++) {
                        if (x != y && (set >> x & 1) == 1 && (set >> y & 1) == 1) {
                            good &= (le[p][x][y] || le[p][y][x]) == related;
                        }
                    }
                }
                best = good ? Math.max(best, Integer.bitCount(set)) : best;
            }
            return best;
        }

        int extremes(int p, boolean smallest) {
            int count = 0;
            for (int x = 0; x < n[p]; x++) {
                boolean extreme = true;
                for (int y = 0; y < n[p]; y++) {
                    extreme &= x == y || !(smallest ? le[p][y][x] : le[p][x][y]);
                }
                count += extreme ? 1 : 0;
            }
            return count;
        }

        int components(int p) {
            int[] mark = {0, 1, 2, 3, 4, 5};
            for (int round = 0; round < 6; round++) {
                for (int x = 0; x < n[p]; x++) {
                    for (int y = 0; y < n[p]; y++) {
                        if (le[p][x][y]) {
                            mark[x] = mark[y] = Math.min(mark[x], mark[y]);
                        }
                    }
                }
            }
            int count = 0;
            for (int x = 0; x < n[p]; x++) {
                count += mark[x] == x ? 1 : 0;
            }
            return count;
        }

        List<Integer> ups(int p) {
            List<Integer> found = new ArrayList<>();
            for (int set = 0; set < 1 << n[p]; set++) {
                boolean up = true;
                for (int x = 0; x < n[p]; x++) {
                    for (int y = 0; y < n[p]; y++) {
                        up &= !((set >> x & 1) == 1 && le[p][x][y] && (set >> y & 1) == 0);
                    }
                }
                if (up) {
                    found.add(set);
                }
            }
            found.sort((a, b) -> Integer.bitCount(a) != Integer.bitCount(b)
                    ? Integer.bitCount(a) - Integer.bitCount(b) : a - b);
            return found;
        }

        int elementCount(int p) {
            return poset(p) ? ups(p).size() : -1;
        }

        int elementBits(int p, int e) {
            return poset(p) && element(p, e) ? ups(p).get(e) : -1;
        }

        int elementOf(int p, int bits) {
            if (!poset(p)) {
                return -1;
            }
            if (bits < 0 || bits >= 1 << n[p]) {
                return -2;
            }
            int found = ups(p).indexOf(bits);
            return found < 0 ? -6 : found;
        }

        /** The greatest candidate is searched for, by the words of the document. */
        int apply(List<Integer> ups, int a, int b, int what) {
            int x = ups.get(a);
            int y = ups.get(b);
            if (what == 0) {
                return ups.indexOf(x & y);
            }
            if (what == 1) {
                return ups.indexOf(x | y);
            }
            int best = 0;
            for (int i = 0; i < ups.size(); i++) {
                if ((ups.get(i) & x & ~y) == 0 && (ups.get(best) & ~ups.get(i)) == 0) {
                    best = i;
                }
            }
            return best;
        }

        int operate(int p, int a, int b, int what) {
            if (!poset(p) || !element(p, a) || !element(p, b)) {
                return -1;
            }
            return apply(ups(p), a, b, what);
        }

        int append(int c) {
            if (c < 33 || c > 126) {
                return -2;
            }
            if (text.length() == 40) {
                return -7;
            }
            text += (char) c;
            return text.length();
        }

        int clearText() {
            int before = text.length();
            text = "";
            return before;
        }

        int parse(int f) {
            String read = text;
            text = "";
            if (f < 0 || f > 5) {
                return -1;
            }
            try {
                formulas[f] = new Reader(read).whole();
                return formulas[f].size();
            } catch (Unreadable unreadable) {
                return -100 - unreadable.position;
            }
        }

        int formulaSize(int f) {
            if (f < 0 || f > 5) {
                return -1;
            }
            return formulas[f] == null ? -3 : formulas[f].size();
        }

        int substitute(int f, int v, int by, int to) {
            if (f < 0 || f > 5 || by < 0 || by > 5 || to < 0 || to > 5 || v < 0 || v > 2) {
                return -1;
            }
            if (formulas[f] == null || formulas[by] == null) {
                return -3;
            }
            Tree result = formulas[f].with("pqr".charAt(v), formulas[by]);
            if (result.size() > 60) {
                return -5;
            }
            formulas[to] = result;
            return result.size();
        }

        int setValue(int p, int v, int e) {
            if (!poset(p) || v < 0 || v > 2 || !element(p, e)) {
                return -1;
            }
            int before = valuation[p][v];
            valuation[p][v] = e;
            return before;
        }

        int evaluate(int[][][] tables, int size, Tree f, int[] by) {
            switch (f.sign) {
                case 'p': return by[0];
                case 'q': return by[1];
                case 'r': return by[2];
                case '0': return 0;
                case '1': return size - 1;
                case '~': return tables[2][evaluate(tables, size, f.right, by)][0];
                default:
                    int what = "&|>".indexOf(f.sign);
                    return tables[what][evaluate(tables, size, f.left, by)][evaluate(tables, size, f.right, by)];
            }
        }

        int[][][] tables(int p) {
            List<Integer> ups = ups(p);
            int[][][] tables = new int[3][ups.size()][ups.size()];
            for (int what = 0; what < 3; what++) {
                for (int a = 0; a < ups.size(); a++) {
                    for (int b = 0; b < ups.size(); b++) {
                        tables[what][a][b] = apply(ups, a, b, what);
                    }
                }
            }
            return tables;
        }

        int value(int p, int f) {
            if (!poset(p) || f < 0 || f > 5) {
                return -1;
            }
            if (formulas[f] == null) {
                return -3;
            }
            return evaluate(tables(p), ups(p).size(), formulas[f], valuation[p]);
        }

        int isForced(int p, int f, int x) {
            if (!poset(p) || f < 0 || f > 5 || !point(p, x)) {
                return -1;
            }
            if (formulas[f] == null) {
                return -3;
            }
            return ups(p).get(value(p, f)) >> x & 1;
        }

        /** All valuations with their values as p, q, r, value, or null if there are too many. */
        List<int[]> all(int p, int f) {
            int size = ups(p).size();
            int[] ends = new int[3];
            long total = 1;
            for (int v = 0; v < 3; v++) {
                ends[v] = formulas[f].has("pqr".charAt(v)) ? size : 1;
                total *= ends[v];
            }
            if (total > 20000) {
                return null;
            }
            int[][][] tables = tables(p);
            List<int[]> found = new ArrayList<>();
            for (int code = 0; code < total; code++) {
                int[] by = {code / (ends[1] * ends[2]), code / ends[2] % ends[1], code % ends[2], 0};
                by[3] = evaluate(tables, size, formulas[f], by);
                found.add(by);
            }
            return found;
        }

        int isValid(int p, int f) {
            int first = refutation(p, f, 0);
            return first == -6 ? 1 : first < 0 ? first : 0;
        }

        int refutation(int p, int f, int v) {
            if (!poset(p) || f < 0 || f > 5 || v < 0 || v > 2) {
                return -1;
            }
            if (formulas[f] == null) {
                return -3;
            }
            List<int[]> all = all(p, f);
            if (all == null) {
                return -5;
            }
            for (int[] by : all) {
                if (by[3] != ups(p).size() - 1) {
                    return by[v];
                }
            }
            return -6;
        }

        int countValuations(int p, int f, int e) {
            if (!poset(p) || f < 0 || f > 5 || !element(p, e)) {
                return -1;
            }
            if (formulas[f] == null) {
                return -3;
            }
            List<int[]> all = all(p, f);
            if (all == null) {
                return -5;
            }
            int count = 0;
            for (int[] by : all) {
                count += by[3] == e ? 1 : 0;
            }
            return count;
        }

        int lowest(int p, int m, int e) {
            List<Integer> ups = ups(p);
            for (int i = 0; i < ups.size(); i++) {
                int there = ups.get(apply(ups, i, e, 2));
                int back = ups.get(apply(ups, e, i, 2));
                if ((ups.get(m) & ~there) == 0 && (ups.get(m) & ~back) == 0) {
                    return i;
                }
            }
            return -99;
        }

        int filterClass(int p, int m, int e) {
            return poset(p) && element(p, m) && element(p, e) ? lowest(p, m, e) : -1;
        }

        int quotientSize(int p, int m) {
            if (!poset(p) || !element(p, m)) {
                return -1;
            }
            int count = 0;
            for (int e = 0; e < ups(p).size(); e++) {
                count += lowest(p, m, e) == e ? 1 : 0;
            }
            return count;
        }

        int isPrime(int p, int m) {
            if (!poset(p) || !element(p, m)) {
                return -1;
            }
            List<Integer> ups = ups(p);
            boolean prime = m != 0;
            for (int a = 0; a < ups.size(); a++) {
                for (int b = 0; b < ups.size(); b++) {
                    prime &= !(a != m && b != m && (ups.get(a) | ups.get(b)) == ups.get(m));
                }
            }
            return prime ? 1 : 0;
        }

        int addGenerator(int e) {
            if (e < 0 || e > 63) {
                return -2;
            }
            if (generators.size() == 4) {
                return -7;
            }
            generators.add(e);
            return generators.size();
        }

        int clearGenerators() {
            int before = generators.size();
            generators.clear();
            return before;
        }

        int generate(int p) {
            if (!poset(p)) {
                return -1;
            }
            for (int g : generators) {
                if (!element(p, g)) {
                    return -2;
                }
            }
            int[][][] tables = tables(p);
            foundSize = ups(p).size();
            cost = new long[foundSize];
            Arrays.fill(cost, Long.MAX_VALUE / 4);
            cost[0] = cost[foundSize - 1] = 1;
            for (int g : generators) {
                cost[g] = 1;
            }
            boolean changed = true;
            while (changed) {
                changed = false;
                for (int[][] table : tables) {
                    for (int x = 0; x < foundSize; x++) {
                        for (int y = 0; y < foundSize; y++) {
                            long price = 1 + cost[x] + cost[y];
                            if (price < cost[table[x][y]]) {
                                cost[table[x][y]] = price;
                                changed = true;
                            }
                        }
                    }
                }
            }
            int count = 0;
            steps = new long[foundSize][];
            for (int e = 0; e < foundSize; e++) {
                if (cost[e] < Long.MAX_VALUE / 4) {
                    count++;
                    steps[e] = cost[e] == 1 ? new long[] {1, 3, -6, -6} : firstStep(tables, e);
                }
            }
            return count;
        }

        long[] firstStep(int[][][] tables, int e) {
            for (int what = 0; what < 3; what++) {
                for (int x = 0; x < foundSize; x++) {
                    for (int y = 0; y < foundSize; y++) {
                        if (tables[what][x][y] == e && 1 + cost[x] + cost[y] == cost[e]) {
                            return new long[] {cost[e], what, x, y};
                        }
                    }
                }
            }
            return null;
        }

        long term(int e, int what) {
            if (e < 0 || e >= foundSize) {
                return -1;
            }
            if (what < 0 || what > 3) {
                return -2;
            }
            return steps[e] == null ? -6 : steps[e][what];
        }

        boolean isMap(int a, int b, int kind, int[] f) {
            int reached = 0;
            for (int x = 0; x < n[a]; x++) {
                reached |= 1 << f[x];
                for (int y = 0; y < n[a]; y++) {
                    boolean before = le[a][x][y];
                    boolean behind = le[b][f[x]][f[y]];
                    if (before && !behind || kind == 3 && behind && !before) {
                        return false;
                    }
                }
                for (int y = 0; (kind == 1 || kind == 2) && y < n[b]; y++) {
                    boolean found = !le[b][f[x]][y];
                    for (int z = 0; z < n[a]; z++) {
                        found |= le[a][x][z] && f[z] == y;
                    }
                    if (!found) {
                        return false;
                    }
                }
            }
            return kind != 2 || reached == (1 << n[b]) - 1;
        }

        /** The number of maps and, as a number of decimal digits, the first one. */
        int[] mapsOf(int a, int b, int kind) {
            int total = 1;
            for (int x = 0; x < n[a]; x++) {
                total *= n[b];
            }
            int[] answer = {0, -6};
            int[] f = new int[6];
            for (int code = 0; code < total; code++) {
                int rest = code;
                for (int x = n[a] - 1; x >= 0; x--) {
                    f[x] = rest % n[b];
                    rest /= n[b];
                }
                if (isMap(a, b, kind, f)) {
                    answer[0]++;
                    if (answer[0] == 1) {
                        StringBuilder digits = new StringBuilder();
                        for (int x = 0; x < n[a]; x++) {
                            digits.append(f[x]);
                        }
                        answer[1] = Integer.parseInt(digits.toString());
                    }
                }
            }
            return answer;
        }

        int countMaps(int a, int b, int kind) {
            return !poset(a) || !poset(b) ? -1 : kind < 0 || kind > 3 ? -2 : mapsOf(a, b, kind)[0];
        }

        int firstMap(int a, int b, int kind) {
            return !poset(a) || !poset(b) ? -1 : kind < 0 || kind > 3 ? -2 : mapsOf(a, b, kind)[1];
        }

        int isIsomorphic(int a, int b) {
            if (!poset(a) || !poset(b)) {
                return -1;
            }
            return n[a] == n[b] && mapsOf(a, b, 3)[0] > 0 ? 1 : 0;
        }

        int sum(int a, int b, int kind, int to) {
            if (!poset(a) || !poset(b) || !poset(to)) {
                return -1;
            }
            if (kind != 0 && kind != 1) {
                return -2;
            }
            int size = n[a] + n[b];
            if (size > 6) {
                return -5;
            }
            boolean[][] order = new boolean[6][6];
            for (int x = 0; x < size; x++) {
                for (int y = 0; y < size; y++) {
                    boolean low = x < n[a];
                    if (low == y < n[a]) {
                        order[x][y] = low ? le[a][x][y] : le[b][x - n[a]][y - n[a]];
                    } else {
                        order[x][y] = low && kind == 1;
                    }
                }
            }
            replace(to, size, order);
            return size;
        }

        int product(int a, int b, int to) {
            if (!poset(a) || !poset(b) || !poset(to)) {
                return -1;
            }
            int size = n[a] * n[b];
            if (size > 6) {
                return -5;
            }
            boolean[][] order = new boolean[6][6];
            for (int x = 0; x < size; x++) {
                for (int y = 0; y < size; y++) {
                    order[x][y] = le[a][x / n[b]][y / n[b]] && le[b][x % n[b]][y % n[b]];
                }
            }
            replace(to, size, order);
            return size;
        }

        int restrict(int p, int e, int to) {
            if (!poset(p) || !poset(to) || !element(p, e)) {
                return -1;
            }
            if (e == 0) {
                return -2;
            }
            List<Integer> kept = new ArrayList<>();
            for (int x = 0; x < n[p]; x++) {
                if ((ups(p).get(e) >> x & 1) == 1) {
                    kept.add(x);
                }
            }
            boolean[][] order = new boolean[6][6];
            for (int x = 0; x < kept.size(); x++) {
                for (int y = 0; y < kept.size(); y++) {
                    order[x][y] = le[p][kept.get(x)][kept.get(y)];
                }
            }
            replace(to, kept.size(), order);
            return kept.size();
        }

        int dual(int p, int to) {
            if (!poset(p) || !poset(to)) {
                return -1;
            }
            boolean[][] order = new boolean[6][6];
            for (int x = 0; x < n[p]; x++) {
                for (int y = 0; y < n[p]; y++) {
                    order[x][y] = le[p][y][x];
                }
            }
            replace(to, n[p], order);
            return n[to];
        }

        boolean row(int r) {
            return r >= 0 && r < 3;
        }

        int narrowed(int type, int value) {
            return type == 0 ? (byte) value : type == 1 ? (short) value : value;
        }

        int allocate(int r, int type, int length) {
            if (!row(r)) {
                return -1;
            }
            if (type < 0 || type > 2 || length > 30) {
                return -2;
            }
            if (length < 0) {
                return -11;
            }
            rowType[r] = type;
            rows[r] = new int[length];
            return length;
        }

        int put(int r, int index, int value) {
            if (!row(r)) {
                return -1;
            }
            if (rows[r] == null) {
                return -8;
            }
            if (index < 0 || index >= rows[r].length) {
                return -10;
            }
            rows[r][index] = narrowed(rowType[r], value);
            return 1;
        }

        long rowElement(int r, int index) {
            if (!row(r) || rows[r] == null || index < 0 || index >= rows[r].length) {
                return Long.MIN_VALUE;
            }
            return rows[r][index];
        }

        int copy(int from, int first, int to, int second, int count) {
            if (!row(from) || !row(to)) {
                return -1;
            }
            if (rows[from] == null || rows[to] == null) {
                return -8;
            }
            if (rowType[from] != rowType[to]) {
                return -9;
            }
            if (first < 0 || second < 0 || count < 0 || (long) first + count > rows[from].length
                    || (long) second + count > rows[to].length) {
                return -10;
            }
            int[] taken = Arrays.copyOfRange(rows[from], first, first + count);
            for (int i = 0; i < count; i++) {
                rows[to][second + i] = taken[i];
            }
            return count;
        }

        int store(int r, int p) {
            if (!row(r) || !poset(p)) {
                return -1;
            }
            if (rows[r] == null) {
                return -8;
            }
            List<Integer> ups = ups(p);
            for (int i = 0; i < ups.size(); i++) {
                if (i == rows[r].length) {
                    return -10;
                }
                rows[r][i] = ups.get(i);
            }
            return ups.size();
        }

        int load(int r, int p) {
            if (!row(r) || !poset(p)) {
                return -1;
            }
            if (rows[r] == null) {
                return -8;
            }
            int count = 0;
            int at = 0;
            while (true) {
                int left = rows[r].length - at;
                if (left < 2) {
                    why = left == 0 ? 0 : 3;
                    return count;
                }
                int answer = relate(p, rows[r][at], rows[r][at + 1]);
                if (answer < 0) {
                    why = answer == -1 ? 1 : 2;
                    return count;
                }
                count++;
                at += 2;
            }
        }
    }
}
