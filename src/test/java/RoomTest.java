import com.sun.management.ThreadMXBean;
import java.lang.management.ManagementFactory;

/** All calls of a run live in one room, so the dearest calls are made 512 times and what they make is weighed. */
public final class RoomTest {
    private static final int CALLS = 512;
    private static final long MOST_BYTES = 1_000_000;

    private static int wrong = 0;

    private interface Call {
        void on(ImplicationAlgebras bench);
    }

    public static void main(String[] args) {
        weigh("countMaps", bench -> bench.countMaps(0, 0, 2));
        weigh("firstMap", bench -> bench.firstMap(0, 1, 2));
        weigh("isIsomorphic", bench -> bench.isIsomorphic(0, 0));
        weigh("countValuations", bench -> bench.countValuations(1, 0, 0));
        weigh("isValid", bench -> bench.isValid(1, 1));
        weigh("refutation", bench -> bench.refutation(1, 1, 2));
        weigh("generate", bench -> bench.generate(0));
        weigh("substitute", bench -> bench.substitute(0, 0, 2, 3));
        weigh("parse", bench -> {
            bench.append('p');
            bench.parse(5);
        });
        weigh("allocate", bench -> bench.allocate(0, 0, 30));
        weigh("storeElements", bench -> bench.storeElements(0, 0));
        weigh("loadOrder", bench -> bench.loadOrder(0, 0));
        weigh("sum", bench -> bench.sum(2, 3, 1, 3));
        weigh("product", bench -> bench.product(2, 2, 3));
        weigh("property", bench -> bench.property(0, 1));
        weighObjects();
        System.out.println(wrong == 0 ? "the room is large enough" : wrong + " calls make too much");
        if (wrong != 0) {
            System.exit(1);
        }
    }

    private static long made() {
        return ((ThreadMXBean) ManagementFactory.getThreadMXBean()).getThreadAllocatedBytes(Thread.currentThread().getId());
    }

    private static void weigh(String name, Call call) {
        ImplicationAlgebras bench = readyBench();
        long before = made();
        for (int i = 0; i < CALLS; i++) {
            call.on(bench);
        }
        judge(name, made() - before);
    }

    private static void weighObjects() {
        long before = made();
        for (int i = 0; i < 50; i++) {
            new ImplicationAlgebras();
        }
        judge("50 new objects", made() - before);
    }

    private static void judge(String name, long bytes) {
        if (bytes > MOST_BYTES) {
            wrong++;
            System.out.println(name + " made " + bytes + " bytes");
        }
    }

    private static ImplicationAlgebras readyBench() {
        ImplicationAlgebras bench = new ImplicationAlgebras();
        bench.reset(0, 6);
        bench.reset(2, 2);
        bench.relate(2, 0, 1);
        bench.sum(2, 2, 0, 1);
        bench.sum(1, 2, 0, 1);
        write(bench, 0, "p&q|r>(p>q)&(q>r)|~p&~q");
        write(bench, 1, "p&q&r>p");
        write(bench, 2, "~p");
        bench.addGenerator(12);
        bench.addGenerator(21);
        bench.addGenerator(36);
        bench.allocate(0, 2, 30);
        return bench;
    }

    private static void write(ImplicationAlgebras bench, int formula, String text) {
        for (char c : text.toCharArray()) {
            bench.append(c);
        }
        bench.parse(formula);
    }
}
