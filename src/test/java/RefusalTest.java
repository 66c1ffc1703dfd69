import java.lang.reflect.Method;
import java.util.ArrayList;
import java.util.Arrays;
import java.util.List;
import java.util.Map;
import java.util.Set;

/**
 * Every method with all combinations of edge arguments, on a new object, on one in use and on a full
 * one: no call throws, and a call that is refused or only asks leaves everything unchanged. What is
 * unchanged is told by looking: an object that had the call must show the same as one that had not.
 */
public final class RefusalTest {
    /** The methods that change something when they succeed; all others only ask. */
    private static final Set<String> CHANGING = Set.of("reset", "relate", "append", "clearText", "parse", "substitute",
        "setValue", "addGenerator", "clearGenerators", "generate", "sum", "product", "restrict", "dual", "allocate", "put",
        "copyElements", "storeElements", "loadOrder");

    private static final int STATES = 3;
    private static final int LOOKS = 4;
    private static final int LISTS = 1;
    private static final int[] MANY = {Integer.MIN_VALUE, Integer.MIN_VALUE + 1, -1, 0, 1, 2, 3, 4, 5, 6, 7, 29, 30, 31, 32, 33,
        63, 64, 126, 127, Integer.MAX_VALUE};
    private static final int[] SOME = {Integer.MIN_VALUE, -1, 0, 1, 2, 3, 4, 6, 30, 64, Integer.MAX_VALUE};
    private static final int[] FEW = {Integer.MIN_VALUE, -1, 0, 1, 2, 3, 4, 6, Integer.MAX_VALUE};
    private static final int[] FEWEST = {-1, 0, 1, 2, 3, Integer.MAX_VALUE};

    private static int refusals = 0;

    public static void main(String[] args) {
        for (int state = 0; state < STATES; state++) {
            long[][] shown = new long[LOOKS][];
            for (int look = 0; look < LOOKS; look++) {
                shown[look] = show(made(state), look);
            }
            for (Map.Entry<String, Method> each : Calls.methods().entrySet()) {
                tryAll(state, each.getKey(), each.getValue().getParameterCount(), shown);
            }
        }
        Calls.expect(refusals > 10000, "too few calls were refused");
        Calls.end();
    }

    private static void tryAll(int state, String name, int count, long[][] shown) {
        int[] values = count > 4 ? FEWEST : count > 3 ? FEW : count > 2 ? SOME : MANY;
        int total = 1;
        for (int i = 0; i < count; i++) {
            total *= values.length;
        }
        for (int code = 0; code < total; code++) {
            int[] arguments = new int[count];
            int rest = code;
            for (int i = 0; i < count; i++) {
                arguments[i] = values[rest % values.length];
                rest /= values.length;
            }
            tryOne(state, name, arguments, shown);
        }
    }

    private static void tryOne(int state, String name, int[] arguments, long[][] shown) {
        long answer = Calls.answer(made(state), name, arguments);
        if (CHANGING.contains(name) && answer >= 0) {
            return;
        }
        // Of these two the document says what changes all the same: the text, and the elements of the row.
        boolean changesText = name.equals("parse");
        boolean changesRow = name.equals("storeElements") && answer == Calls.number("OUT_OF_BOUNDS");
        refusals++;
        for (int look = 0; look < LOOKS; look++) {
            if (look == LISTS && (changesText || changesRow)) {
                continue;
            }
            ImplicationAlgebras bench = made(state);
            Calls.answer(bench, name, arguments);
            Calls.due("state " + state + ", look " + look + " behind " + name + Arrays.toString(arguments),
                    "the first difference", Arrays.mismatch(show(bench, look), shown[look]), -1);
        }
    }

    private static ImplicationAlgebras made(int state) {
        ImplicationAlgebras bench = new ImplicationAlgebras();
        if (state == 1) {
            use(bench);
        } else if (state == 2) {
            fill(bench);
        }
        return bench;
    }

    private static void write(ImplicationAlgebras bench, String text) {
        for (char c : text.toCharArray()) {
            bench.append(c);
        }
    }

    private static void use(ImplicationAlgebras bench) {
        bench.reset(0, 3);
        bench.relate(0, 0, 1);
        bench.relate(0, 0, 2);
        bench.reset(1, 6);
        bench.reset(2, 2);
        bench.relate(2, 1, 0);
        bench.setValue(0, 0, 3);
        bench.setValue(0, 1, 1);
        bench.setValue(1, 2, 42);
        bench.setValue(2, 1, 1);
        bench.setValue(3, 0, 1);
        String[] texts = {"p&q>r", "~~p>p", "p|~q", "1", "r>(p>q)&~r"};
        for (int i = 0; i < texts.length; i++) {
            write(bench, texts[i]);
            bench.parse(i);
        }
        bench.addGenerator(1);
        bench.generate(0);
        bench.addGenerator(2);
        bench.allocate(0, 0, 3);
        bench.put(0, 0, 5);
        bench.put(0, 2, -7);
        bench.allocate(1, 2, 4);
        bench.put(1, 0, 1);
        bench.loadOrder(1, 2);
        bench.put(1, 2, 2);
        bench.loadOrder(1, 2);
        write(bench, "p>(q");
    }

    private static void fill(ImplicationAlgebras bench) {
        for (int i = 0; i < 4; i++) {
            bench.reset(i, 6);
            bench.relate(i, i, 5);
            bench.setValue(i, i % 3, 47);
            bench.addGenerator(40 + i);
        }
        for (int i = 0; i < 6; i++) {
            write(bench, "p&p&p&p&p&p&p&p&p&p".substring(0, 19 - 2 * i));
            bench.parse(i);
        }
        write(bench, "q|p&r");
        bench.parse(1);
        bench.substitute(0, 0, 1, 2);
        bench.generate(2);
        for (int i = 0; i < 3; i++) {
            bench.allocate(i, i, 30);
            bench.put(i, i, 1 + i);
            bench.put(i, 29, 70000);
        }
        bench.loadOrder(0, 1);
        write(bench, "p>p>p>p>p>p>p>p>p>p>p>p>p>p>p>p>p>p>p>~p");
    }

    /** An object is used for at most 512 calls, so each look shows a part. */
    private static long[] show(ImplicationAlgebras bench, int look) {
        List<Long> seen = new ArrayList<>();
        switch (look) {
            case 0: showOrders(bench, seen); break;
            case LISTS: showTextAndLists(bench, seen); break;
            case 2: showTerms(bench, seen); break;
            default: showFormulas(bench, seen); break;
        }
        return seen.stream().mapToLong(Long::longValue).toArray();
    }

    private static void showOrders(ImplicationAlgebras bench, List<Long> seen) {
        for (int p = 0; p < 4; p++) {
            int size = bench.points(p);
            seen.add((long) size);
            for (int x = 0; x < size; x++) {
                for (int y = 0; y < size; y++) {
                    seen.add((long) bench.isBelow(p, x, y));
                }
            }
            seen.add((long) bench.elementCount(p));
            for (int e = 0; e < 16; e++) {
                seen.add((long) bench.elementBits(p, e * 4));
            }
            for (int v = 0; v < 3; v++) {
                seen.add((long) bench.setValue(p, v, 0));
            }
        }
        seen.add((long) bench.failure());
    }

    private static void showTextAndLists(ImplicationAlgebras bench, List<Long> seen) {
        for (int r = 0; r < 3; r++) {
            for (int i = 0; i < 31; i++) {
                seen.add(bench.rowElement(r, i));
            }
            seen.add((long) bench.copyElements(r, 0, 0, 0, 0));
        }
        seen.add((long) bench.append(')'));
        seen.add((long) bench.parse(5));
        bench.reset(3, 2);
        for (int p = 0; p < 4; p++) {
            for (int q = 0; q < 4; q++) {
                bench.setValue(3, 0, p);
                bench.setValue(3, 1, q);
                seen.add((long) bench.value(3, 5));
            }
        }
        bench.reset(3, 6);
        seen.add((long) bench.generate(3));
        for (int e = 0; e < 64; e++) {
            seen.add(bench.term(e, 0));
        }
        seen.add((long) bench.clearGenerators());
    }

    private static void showTerms(ImplicationAlgebras bench, List<Long> seen) {
        for (int e = 0; e <= 64; e++) {
            for (int what = 0; what < 4; what++) {
                seen.add(bench.term(e, what));
            }
        }
    }

    private static void showFormulas(ImplicationAlgebras bench, List<Long> seen) {
        for (int f = 0; f < 6; f++) {
            seen.add((long) bench.formulaSize(f));
        }
        bench.reset(3, 2);
        bench.relate(3, 0, 1);
        for (int code = 0; code < 27; code++) {
            bench.setValue(3, 0, code / 9);
            bench.setValue(3, 1, code / 3 % 3);
            bench.setValue(3, 2, code % 3);
            for (int f = 0; f < 6; f++) {
                seen.add((long) bench.value(3, f));
            }
        }
    }
}
