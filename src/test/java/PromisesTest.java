/** Runs for each promise, with the answers that are due; Calls says how a run is written. */
public final class PromisesTest {
    public static void main(String[] args) {
        posets();
        properties();
        elements();
        algebra();
        text();
        grammar();
        substitution();
        values();
        validity();
        filters();
        terms();
        maps();
        madePosets();
        valuationsAreForgotten();
        rows();
        copies();
        stored();
        loaded();
        examples();
        Calls.end();
    }

    private static void run(String title, String... lines) {
        Calls.run(title, lines);
    }

    private static void posets() {
        run("promise 1: a new object",
            "points(0)=1 points(1)=1 points(2)=1 points(3)=1 elementCount(0)=2 isBelow(3,0,0)=1 property(2,5)=0",
            "formulaSize(0)=-3 formulaSize(5)=-3 value(0,0)=-3 clearText()=0 clearGenerators()=0 term(0,0)=-1",
            "put(0,0,0)=-8 put(2,0,0)=-8 rowElement(1,0)=NOTHING failure()=0",
            "setValue(0,0,0)=0 setValue(3,2,1)=0 setValue(3,2,0)=1");
        run("promise 2: reset",
            "reset(0,6)=1 reset(0,1)=6 reset(0,4)=1 points(0)=4 points(1)=1 property(0,5)=0",
            "relate(0,0,1)=1 reset(0,4)=4 isBelow(0,0,1)=0 isBelow(0,1,1)=1 elementCount(0)=16",
            "reset(0,0)=-2 reset(0,7)=-2 reset(0,-1)=-2 reset(0,MIN)=-2 reset(0,MAX)=-2 points(0)=4",
            "reset(-1,0)=-1 reset(4,7)=-1 reset(4,2)=-1 reset(MIN,3)=-1 reset(MAX,3)=-1",
            "setValue(0,1,3)=0 reset(0,0)=-2 setValue(0,1,3)=3 reset(0,4)=4 setValue(0,1,3)=0");
        run("promise 3: points",
            "reset(1,2)=1 reset(2,3)=1 reset(3,6)=1 points(0)=1 points(1)=2 points(2)=3 points(3)=6",
            "points(4)=-1 points(-1)=-1 points(MIN)=-1 points(MAX)=-1");
        run("promise 4: relate",
            "reset(0,6)=1 relate(0,0,1)=1 relate(0,2,3)=2 relate(0,1,2)=6 isBelow(0,0,3)=1 relate(0,4,5)=7",
            "relate(0,3,4)=15 isBelow(0,0,5)=1 relate(0,5,0)=-4 relate(0,1,0)=-4 relate(0,0,5)=15 relate(0,5,5)=15",
            "relate(0,6,0)=-1 relate(0,0,6)=-1 relate(0,-1,0)=-1 relate(0,0,-1)=-1 relate(4,0,0)=-1 relate(-1,0,0)=-1",
            "relate(0,6,6)=-1 relate(0,MAX,MIN)=-1 property(0,5)=15");
        run("promise 4: relate makes the variables bottom, a refusal does not",
            "reset(0,3)=1 relate(0,0,1)=1 setValue(0,0,1)=0 setValue(0,1,2)=0 setValue(0,2,3)=0",
            "relate(0,1,0)=-4 relate(0,0,3)=-1 setValue(0,0,1)=1 relate(0,0,1)=1 setValue(0,0,1)=0 setValue(0,1,1)=0",
            "setValue(0,2,1)=0 relate(0,2,2)=1 setValue(0,0,0)=0 setValue(0,1,0)=0 setValue(0,2,0)=0");
        run("promise 5: isBelow",
            "reset(0,3)=1 relate(0,2,0)=1 isBelow(0,2,0)=1 isBelow(0,0,2)=0 isBelow(0,1,1)=1 isBelow(0,1,0)=0",
            "isBelow(0,3,0)=-1 isBelow(0,0,3)=-1 isBelow(0,-1,0)=-1 isBelow(0,0,-1)=-1 isBelow(4,0,0)=-1 isBelow(-1,0,0)=-1",
            "isBelow(0,MIN,MAX)=-1");
        run("promise 6: covers",
            "reset(0,5)=1 covers(0,0)=0 relate(0,0,1)=1 relate(0,0,2)=2 relate(0,1,3)=4 relate(0,2,3)=5 relate(0,0,4)=6",
            "covers(0,0)=22 covers(0,1)=8 covers(0,2)=8 covers(0,3)=0 covers(0,4)=0 relate(0,4,3)=7 covers(0,4)=8",
            "relate(0,4,1)=8 covers(0,0)=20 covers(0,4)=2",
            "covers(0,5)=-1 covers(0,-1)=-1 covers(4,0)=-1 covers(-1,0)=-1 covers(0,MIN)=-1 covers(MAX,0)=-1");
    }

    private static void properties() {
        run("promise 7: property of the fence 0 < 1 > 2 < 3, and of 4 < 5",
            "reset(0,6)=1 relate(0,0,1)=1 relate(0,2,1)=2 relate(0,2,3)=3 relate(0,4,5)=4",
            "property(0,0)=2 property(0,1)=3 property(0,2)=3 property(0,3)=3 property(0,4)=2 property(0,5)=4",
            "property(0,6)=-2 property(0,-1)=-2 property(0,MIN)=-2 property(0,MAX)=-2 property(4,6)=-1 property(-1,0)=-1");
        run("promise 7: property of one point, of 6 points without relations and of the chain of 6",
            "property(0,0)=1 property(0,1)=1 property(0,2)=1 property(0,3)=1 property(0,4)=1 property(0,5)=0",
            "reset(0,6)=1 property(0,0)=1 property(0,1)=6 property(0,2)=6 property(0,3)=6 property(0,4)=6 property(0,5)=0",
            "relate(0,5,4)=1 relate(0,4,3)=3 relate(0,3,2)=6 relate(0,2,1)=10 relate(0,1,0)=15",
            "property(0,0)=6 property(0,1)=1 property(0,2)=1 property(0,3)=1 property(0,4)=1 property(0,5)=15");
        run("promise 7: a component that is reached by the longest way",
            "reset(0,6)=1 relate(0,0,3)=1 relate(0,4,3)=2 relate(0,4,1)=3 relate(0,2,1)=4 relate(0,2,5)=5",
            "property(0,4)=1 property(0,0)=2 property(0,1)=3 property(0,2)=3 property(0,3)=3");
        run("promise 7: one point below three others, and the least ones counted apart from the greatest",
            "reset(0,4)=1 relate(0,0,1)=1 relate(0,0,2)=2 relate(0,0,3)=3",
            "property(0,0)=2 property(0,1)=3 property(0,2)=1 property(0,3)=3 property(0,4)=1 property(0,5)=3");
    }

    private static void elements() {
        run("promise 8: elementCount",
            "elementCount(0)=2 reset(0,6)=1 elementCount(0)=64 relate(0,0,1)=1 elementCount(0)=48 elementCount(1)=2",
            "elementCount(4)=-1 elementCount(-1)=-1 elementCount(MIN)=-1");
        run("promise 9: elementBits in ascending order of the number of points, then of the bits",
            "reset(0,3)=1 elementBits(0,0)=0 elementBits(0,1)=1 elementBits(0,2)=2 elementBits(0,3)=4 elementBits(0,4)=3",
            "elementBits(0,5)=5 elementBits(0,6)=6 elementBits(0,7)=7 elementBits(0,8)=-1 elementBits(0,-1)=-1",
            "relate(0,0,2)=1 elementBits(0,1)=2 elementBits(0,2)=4 elementBits(0,3)=5 elementBits(0,4)=6 elementBits(0,5)=7",
            "elementBits(0,6)=-1 elementBits(4,0)=-1 elementBits(-1,0)=-1 elementBits(0,MAX)=-1 elementBits(0,MIN)=-1");
        run("promise 10: elementOf",
            "reset(0,3)=1 relate(0,0,2)=1 elementOf(0,0)=0 elementOf(0,2)=1 elementOf(0,4)=2 elementOf(0,5)=3 elementOf(0,6)=4",
            "elementOf(0,7)=5 elementOf(0,1)=-6 elementOf(0,3)=-6 elementOf(0,8)=-2 elementOf(0,9)=-2 elementOf(0,-1)=-2",
            "elementOf(0,64)=-2 elementOf(0,MIN)=-2 elementOf(0,MAX)=-2 elementOf(4,8)=-1 elementOf(-1,0)=-1",
            "reset(1,6)=1 elementOf(1,63)=63 elementOf(1,64)=-2 elementOf(1,32)=6");
    }

    private static void algebra() {
        run("promises 11 to 13: 0 < 1, 0 < 2; the elements are 0, {1}, {2}, {1,2} and all",
            "reset(0,3)=1 relate(0,0,1)=1 relate(0,0,2)=2 elementCount(0)=5",
            "meet(0,1,2)=0 meet(0,3,1)=1 meet(0,4,3)=3 meet(0,2,2)=2 meet(0,0,4)=0",
            "join(0,1,2)=3 join(0,0,2)=2 join(0,4,0)=4 join(0,3,1)=3 join(0,1,1)=1",
            "implies(0,1,0)=2 implies(0,2,0)=1 implies(0,3,0)=0 implies(0,4,1)=1 implies(0,1,2)=2 implies(0,3,1)=1",
            "implies(0,1,3)=4 implies(0,0,0)=4 implies(0,2,2)=4 implies(0,4,3)=3 implies(0,0,4)=4");
        run("promises 11 to 13: refusals",
            "reset(0,2)=1 meet(0,4,0)=-1 meet(0,0,4)=-1 meet(0,-1,0)=-1 meet(0,0,-1)=-1 meet(4,0,0)=-1 meet(-1,0,0)=-1",
            "join(0,4,0)=-1 join(0,0,4)=-1 join(0,-1,0)=-1 join(0,0,-1)=-1 join(4,0,0)=-1 join(-1,0,0)=-1",
            "implies(0,4,0)=-1 implies(0,0,4)=-1 implies(0,-1,0)=-1 implies(0,0,-1)=-1 implies(4,0,0)=-1 implies(-1,0,0)=-1",
            "meet(0,MIN,MAX)=-1 join(MAX,0,0)=-1 implies(MIN,0,0)=-1 meet(0,3,3)=3 join(0,3,0)=3 implies(0,3,0)=0");
    }

    private static void text() {
        run("promise 14: append",
            "append(33)=1 append(126)=2 append(32)=-2 append(127)=-2 append(-1)=-2 append(MIN)=-2 append(MAX)=-2",
            "clearText()=2 write(1111111111222222222233333333334444444444) append(112)=-7 append(32)=-2 append(127)=-2",
            "clearText()=40 append(112)=1");
        run("promise 15: clearText",
            "clearText()=0 write(p&) clearText()=2 clearText()=0 write(q) parse(0)=1 clearText()=0");
        run("promise 16: the text is empty behind every call",
            "write(p) parse(6)=-1 parse(0)=-100 write(p) parse(-1)=-1 clearText()=0 write(p&) parse(0)=-102 clearText()=0",
            "write(p) parse(MIN)=-1 clearText()=0 write(p) parse(MAX)=-1 clearText()=0");
        run("promise 16: an error leaves the formula as it was",
            "write(p|q) parse(3)=3 write(p&&q) parse(3)=-102 formulaSize(3)=3 write(r) parse(6)=-1 formulaSize(3)=3",
            "reset(0,2)=1 setValue(0,1,2)=0 value(0,3)=2 write(~p) parse(3)=2 formulaSize(3)=2 value(0,3)=3");
        run("promise 16: a text of 40 characters",
            "write(p>p>p>p>p>p>p>p>p>p>p>p>p>p>p>p>p>p>p>~p) parse(0)=40 formulaSize(0)=40 isValid(0,0)=0",
            "write(((((((((p))))))))>((((((((p))))))))>~p&q) parse(0)=8 isValid(0,0)=0 write(((((((((p))))))))>((((((((p))))))))>p&q&r) parse(0)=-140",
            "write(p&p&p&p&p&p&p&p&p&p&p&p&p&p&p&p&p&p&p&p&) parse(0)=-140");
        run("promise 17: formulaSize",
            "formulaSize(0)=-3 formulaSize(6)=-1 formulaSize(-1)=-1 formulaSize(MIN)=-1 formulaSize(MAX)=-1",
            "write(((p))) parse(0)=1 formulaSize(0)=1 write(~(p&q)|~r>0) parse(5)=9 formulaSize(5)=9 formulaSize(4)=-3",
            "write(1) parse(4)=1 formulaSize(4)=1 write(p&p&p) parse(4)=5 formulaSize(4)=5");
    }

    private static void grammar() {
        run("promise 16: error positions",
            "parse(0)=-100 write(&) parse(0)=-100 write(>p) parse(0)=-100 write(p>) parse(0)=-102 write(p|) parse(0)=-102",
            "write(~) parse(0)=-101 write(() parse(0)=-101 write(()) parse(0)=-101 write()) parse(0)=-100",
            "write((p)) parse(0)=1 write((p))) parse(0)=-103 write((p))q) parse(0)=-103 write(pq) parse(0)=-101",
            "write(p~q) parse(0)=-101 write(p(q)) parse(0)=-101 write(p&~) parse(0)=-103 write(p&>q) parse(0)=-102",
            "write(P) parse(0)=-100 write(s) parse(0)=-100 write(2) parse(0)=-100 write(p10) parse(0)=-101 write((p>q) parse(0)=-104",
            "write((p&)) parse(0)=-103 write(p!) parse(0)=-101 write(~)) parse(0)=-101 write((p|~(q)>r) parse(0)=-109");
        run("promise 16: at most 8 open signs",
            "write(~~~~~~~~p) parse(0)=9 write(~~~~~~~~~p) parse(0)=-108 write(~~~~~~~~(p)) parse(0)=-108",
            "write(~(~(~(~(p)))))&~p) parse(0)=-113 write(~(~(~(~(p))))&~p) parse(0)=8 write(((((((((p) parse(0)=-109",
            "write((((((((~p))))))))) parse(0)=-116 write((((((((~p)))))))) parse(0)=2 write((((((((~~p) parse(0)=-108",
            "write((((((((~p&~q))))))) parse(0)=-118 write((((((((~p&~q)))))))) parse(0)=5 write((((((((~p&(q|~r) parse(0)=-113",
            "write(~~~~p&~~~~~~~~q) parse(0)=15 write(~~~~(p&~~~~q)) parse(0)=-110 write(~~~~(p&~~~q)) parse(0)=10",
            "write(~(p)&~~~~~~~~q) parse(0)=12 write(~~(p)>((((((((1))))))))) parse(0)=5");
        run("promise 16: what binds stronger, and > to the right (p = {0}, q = {1}, r = {2} of 3 points)",
            "reset(0,3)=1 setValue(0,0,1)=0 setValue(0,1,2)=0 setValue(0,2,3)=0",
            "write(p|q&r) parse(0)=5 value(0,0)=1 write((p|q)&r) parse(0)=5 value(0,0)=0 write(p&q|r) parse(0)=5 value(0,0)=3",
            "write(p&(q|r)) parse(0)=5 value(0,0)=0 write(0>p>0) parse(0)=5 value(0,0)=7 write((0>p)>0) parse(0)=5 value(0,0)=0",
            "write(p|q>r) parse(0)=5 value(0,0)=3 write(p|(q>r)) parse(0)=5 value(0,0)=5 write(p>q|r) parse(0)=5 value(0,0)=6",
            "write(p>q&r) parse(0)=5 value(0,0)=6 write(~p&q) parse(0)=4 value(0,0)=2 write(~(p&q)) parse(0)=4 value(0,0)=7",
            "write(~p>q) parse(0)=4 value(0,0)=4 write(~~p|q) parse(0)=5 value(0,0)=4 write(p>0>q>r) parse(0)=7 value(0,0)=7");
    }

    private static void substitution() {
        run("promise 18: substitute",
            "write(p&q) parse(0)=3 write(p>r) parse(1)=3 substitute(0,0,1,2)=5 formulaSize(2)=5 formulaSize(0)=3",
            "formulaSize(1)=3 substitute(0,2,1,3)=3 formulaSize(3)=3 substitute(0,0,0,0)=5 formulaSize(0)=5",
            "substitute(1,0,1,1)=5 substitute(0,1,1,1)=13 formulaSize(1)=13 formulaSize(0)=5");
        run("promise 18: only the occurrences in the first formula are replaced",
            "write(p|p) parse(0)=3 write(p&q) parse(1)=3 substitute(0,0,1,0)=7 substitute(1,0,1,1)=5 substitute(1,1,0,2)=17");
        run("promise 18: the result has the value of the formula with the other one in the variable's place",
            "reset(0,2)=1 relate(0,0,1)=1 write(p>q) parse(0)=3 write(~q) parse(1)=2 substitute(0,0,1,2)=4",
            "value(0,2)=0 setValue(0,1,1)=0 value(0,2)=2 write(p>q) parse(3)=3 substitute(3,1,0,3)=5 setValue(0,0,2)=0 value(0,3)=1",
            "write(p>q) parse(4)=3 write(q>p) parse(5)=3 substitute(4,0,5,4)=5 setValue(0,0,0)=2 setValue(0,1,1)=1 value(0,4)=2");
        run("promise 18: 60 is the largest size",
            "write(p&p&p&p&p&p&p&p&p&p) parse(0)=19 write(p&q|r) parse(1)=5 substitute(0,0,1,2)=59 write(~p) parse(4)=2",
            "substitute(4,0,2,3)=60 formulaSize(3)=60 value(0,3)=1 substitute(4,0,3,3)=-5 substitute(4,0,3,5)=-5 formulaSize(5)=-3",
            "formulaSize(3)=60 write(~~p) parse(4)=3 substitute(4,0,2,2)=-5 formulaSize(2)=59 substitute(4,1,2,2)=3",
            "substitute(3,0,3,3)=-5 write(1) parse(5)=1 substitute(3,0,5,3)=60 isValid(0,3)=0 countValuations(0,3,1)=1");
        run("promise 18: refusals",
            "write(p) parse(0)=1 substitute(6,0,0,0)=-1 substitute(-1,0,0,0)=-1 substitute(0,3,0,0)=-1 substitute(0,-1,0,0)=-1",
            "substitute(0,0,6,0)=-1 substitute(0,0,-1,0)=-1 substitute(0,0,0,6)=-1 substitute(0,0,0,-1)=-1 substitute(1,3,0,0)=-1",
            "substitute(1,0,0,6)=-1 substitute(1,0,0,0)=-3 substitute(0,0,1,0)=-3 substitute(0,1,1,0)=-3 substitute(1,0,1,1)=-3",
            "substitute(MIN,0,0,0)=-1 substitute(0,MAX,0,0)=-1 substitute(0,0,0,5)=1 formulaSize(5)=1 formulaSize(1)=-3");
    }

    private static void values() {
        run("promise 19: setValue",
            "reset(0,2)=1 setValue(0,0,3)=0 setValue(0,0,1)=3 setValue(0,1,2)=0 setValue(0,2,3)=0 setValue(0,2,0)=3",
            "setValue(0,1,1)=2 setValue(1,0,1)=0 setValue(1,0,2)=-1 setValue(0,0,4)=-1 setValue(0,0,-1)=-1 setValue(0,3,0)=-1",
            "setValue(0,-1,0)=-1 setValue(4,0,0)=-1 setValue(-1,0,0)=-1 setValue(0,MIN,0)=-1 setValue(0,0,MAX)=-1 setValue(0,0,0)=1");
        run("promise 20: value",
            "value(0,0)=-3 value(4,0)=-1 value(0,6)=-1 value(-1,0)=-1 value(0,-1)=-1 write(p>q) parse(0)=3 write(1) parse(1)=1",
            "write(0) parse(2)=1 write(~~p>p) parse(3)=5 reset(0,2)=1 relate(0,0,1)=1 value(0,0)=2 value(0,1)=2 value(0,2)=0",
            "setValue(0,0,1)=0 value(0,0)=0 value(0,3)=1 setValue(0,1,1)=0 value(0,0)=2 value(1,0)=1 value(0,4)=-3",
            "value(4,4)=-1 value(MIN,MAX)=-1");
        run("promise 21: isForced",
            "write(p) parse(0)=1 reset(0,3)=1 setValue(0,0,5)=0 isForced(0,0,0)=1 isForced(0,0,1)=0 isForced(0,0,2)=1",
            "isForced(0,0,3)=-1 isForced(0,0,-1)=-1 isForced(4,0,0)=-1 isForced(-1,0,0)=-1 isForced(0,6,0)=-1 isForced(0,-1,0)=-1",
            "isForced(0,1,0)=-3 isForced(0,1,3)=-1 isForced(0,0,MAX)=-1 isForced(0,0,MIN)=-1 isForced(0,0,32)=-1");
    }

    private static void validity() {
        run("promise 22: isValid",
            "write(p|~p) parse(0)=4 write(((p>q)>p)>p) parse(1)=7 write(p>p|q) parse(2)=5 write(~p|~~p) parse(3)=6 isValid(0,0)=1",
            "isValid(0,1)=1 reset(0,2)=1 isValid(0,0)=1 relate(0,0,1)=1 isValid(0,0)=0 isValid(0,1)=0 isValid(0,2)=1 isValid(0,3)=1",
            "reset(0,3)=2 relate(0,0,1)=1 relate(0,0,2)=2 isValid(0,3)=0 isValid(0,2)=1 isValid(0,4)=-3 isValid(4,4)=-1",
            "isValid(0,6)=-1 isValid(-1,0)=-1 isValid(0,-1)=-1 isValid(4,0)=-1");
        run("promise 22: only the variables that occur are varied, and the current valuation is not used",
            "reset(0,2)=1 write(p>q) parse(0)=3 setValue(0,0,0)=0 setValue(0,1,3)=0 isValid(0,0)=0 value(0,0)=3 setValue(0,1,3)=3",
            "write(1) parse(1)=1 isValid(0,1)=1 write(0) parse(2)=1 isValid(0,2)=0 refutation(0,2,0)=0 refutation(0,2,2)=0",
            "write(r) parse(3)=1 setValue(0,2,3)=0 isValid(0,3)=0 countValuations(0,3,0)=1 setValue(0,2,3)=3");
        run("promises 22 to 24: 20000 valuations and more (27, 28 and 64 elements)",
            "write(p&q&r>p) parse(0)=7 write(p&q>p) parse(1)=5 reset(3,2)=1 relate(3,0,1)=1 sum(3,3,0,2)=4 sum(2,3,0,2)=6",
            "elementCount(2)=27 isValid(2,0)=1 refutation(2,0,0)=-6 countValuations(2,0,26)=19683 countValuations(2,0,0)=0",
            "reset(0,6)=1 relate(0,0,1)=1 relate(0,2,3)=2 relate(0,2,4)=3 elementCount(0)=30",
            "isValid(0,0)=-5 refutation(0,0,1)=-5 countValuations(0,0,1)=-5 isValid(0,1)=1 countValuations(0,1,29)=900",
            "reset(1,6)=1 isValid(1,0)=-5 isValid(1,1)=1 countValuations(1,1,63)=4096 value(1,0)=63 isForced(1,0,5)=1",
            "isValid(1,2)=-3 refutation(1,2,0)=-3 countValuations(1,2,0)=-3 refutation(1,0,3)=-1 countValuations(1,0,64)=-1");
        run("promise 23: refutation",
            "reset(0,3)=1 relate(0,0,1)=1 relate(0,0,2)=2 write((r>q)|(q>r)) parse(0)=7 refutation(0,0,0)=0 refutation(0,0,1)=1",
            "refutation(0,0,2)=2 write(p>q) parse(1)=3 refutation(0,1,0)=1 refutation(0,1,1)=0 refutation(0,1,2)=0",
            "write(q>p) parse(2)=3 refutation(0,2,0)=0 refutation(0,2,1)=1 write(p>p) parse(3)=3 refutation(0,3,0)=-6",
            "write(p&q>r&p) parse(4)=7 refutation(0,4,0)=1 refutation(0,4,1)=1 refutation(0,4,2)=0 refutation(0,5,0)=-3",
            "refutation(0,0,3)=-1 refutation(0,0,-1)=-1 refutation(4,0,0)=-1 refutation(-1,0,0)=-1 refutation(0,6,0)=-1",
            "refutation(0,-1,0)=-1 refutation(0,5,3)=-1 refutation(0,0,MAX)=-1");
        run("promise 23: the first refutation may have high elements",
            "reset(0,6)=1 write(~~(p|q)>p|q) parse(0)=9 refutation(0,0,0)=-6 relate(0,5,4)=1 refutation(0,0,0)=0 refutation(0,0,1)=5",
            "reset(1,2)=1 write(~(p&q)|~~p&~~q&~p) parse(1)=15 refutation(1,1,0)=1 refutation(1,1,1)=1 refutation(1,1,2)=0");
        run("promise 24: countValuations",
            "reset(0,2)=1 relate(0,0,1)=1 write(p>q) parse(0)=3 countValuations(0,0,2)=6 countValuations(0,0,1)=1",
            "countValuations(0,0,0)=2 write(1) parse(1)=1 countValuations(0,1,2)=1 countValuations(0,1,0)=0",
            "write(p&0) parse(2)=3 countValuations(0,2,0)=3 countValuations(0,2,2)=0 countValuations(0,3,0)=-3",
            "countValuations(0,0,3)=-1 countValuations(0,0,-1)=-1 countValuations(4,0,0)=-1 countValuations(-1,0,0)=-1",
            "countValuations(0,6,0)=-1 countValuations(0,-1,0)=-1 countValuations(0,3,3)=-1 countValuations(0,0,MAX)=-1");
    }

    private static void filters() {
        run("promise 25: filterClass",
            "reset(0,3)=1 relate(0,0,1)=1 relate(0,0,2)=2 filterClass(0,3,4)=3 filterClass(0,3,3)=3 filterClass(0,4,3)=3",
            "filterClass(0,4,4)=4 filterClass(0,0,4)=0 filterClass(0,1,2)=0 filterClass(0,1,3)=1 filterClass(0,2,4)=2",
            "filterClass(0,5,0)=-1 filterClass(0,0,5)=-1 filterClass(0,-1,0)=-1 filterClass(0,0,-1)=-1 filterClass(4,0,0)=-1",
            "filterClass(-1,0,0)=-1 filterClass(0,MAX,MIN)=-1");
        run("promise 26: quotientSize",
            "reset(0,3)=1 relate(0,0,1)=1 relate(0,0,2)=2 quotientSize(0,0)=1 quotientSize(0,1)=2 quotientSize(0,2)=2",
            "quotientSize(0,3)=4 quotientSize(0,4)=5 quotientSize(0,5)=-1 quotientSize(0,-1)=-1 quotientSize(4,0)=-1",
            "quotientSize(-1,0)=-1 reset(1,6)=1 quotientSize(1,63)=64 quotientSize(1,62)=32 quotientSize(1,0)=1");
        run("promise 27: isPrime",
            "reset(0,3)=1 relate(0,0,1)=1 relate(0,0,2)=2 isPrime(0,0)=0 isPrime(0,1)=1 isPrime(0,2)=1 isPrime(0,3)=0",
            "isPrime(0,4)=1 isPrime(0,5)=-1 isPrime(0,-1)=-1 isPrime(4,0)=-1 isPrime(-1,0)=-1 isPrime(1,1)=1 isPrime(1,0)=0",
            "reset(1,2)=1 isPrime(1,3)=0 isPrime(1,1)=1");
    }

    private static void terms() {
        run("promise 28: addGenerator",
            "addGenerator(63)=1 addGenerator(0)=2 addGenerator(64)=-2 addGenerator(-1)=-2 addGenerator(63)=3 addGenerator(1)=4",
            "addGenerator(1)=-7 addGenerator(64)=-2 addGenerator(-1)=-2 clearGenerators()=4 addGenerator(MIN)=-2 addGenerator(MAX)=-2");
        run("promise 29: clearGenerators",
            "clearGenerators()=0 addGenerator(5)=1 addGenerator(5)=2 clearGenerators()=2 clearGenerators()=0 addGenerator(1)=1",
            "generate(0)=2");
        run("promise 30: generate",
            "generate(0)=2 addGenerator(1)=1 generate(0)=2 clearGenerators()=1 reset(0,3)=1 generate(0)=2 addGenerator(1)=1",
            "generate(0)=4 addGenerator(2)=2 generate(0)=8 addGenerator(8)=3 generate(0)=-2 generate(4)=-1 generate(-1)=-1",
            "generate(1)=-2 reset(1,4)=1 generate(1)=16 reset(2,6)=1 addGenerator(63)=4 generate(2)=16 generate(0)=-2");
        run("promise 30: three generators give all of 6 points without relations",
            "reset(0,6)=1 addGenerator(12)=1 addGenerator(21)=2 addGenerator(36)=3 generate(0)=64");
        run("promises 30 and 31: what was found stays",
            "term(0,0)=-1 term(0,9)=-1 generate(4)=-1 term(0,0)=-1 reset(0,3)=1 addGenerator(1)=1 addGenerator(2)=2 generate(0)=8",
            "term(3,0)=5 reset(0,1)=3 clearGenerators()=2 term(3,0)=5 term(7,0)=1 term(8,0)=-1 addGenerator(2)=1 generate(0)=-2",
            "generate(4)=-1 generate(-1)=-1 term(3,0)=5 term(3,1)=2 clearGenerators()=1 generate(0)=2 term(3,0)=-1 term(1,0)=1");
        run("promise 31: costs and steps of 3 points without relations, by {0} and {1}",
            "reset(0,3)=1 addGenerator(1)=1 addGenerator(2)=2 generate(0)=8",
            "term(0,0)=1 term(0,1)=3 term(0,2)=-6 term(0,3)=-6 term(1,0)=1 term(1,1)=3 term(7,0)=1 term(7,1)=3 term(7,2)=-6",
            "term(4,0)=3 term(4,1)=1 term(4,2)=1 term(4,3)=2 term(6,0)=3 term(6,1)=2 term(6,2)=1 term(6,3)=0",
            "term(5,0)=3 term(5,1)=2 term(5,2)=2 term(5,3)=0 term(3,0)=5 term(3,1)=2 term(3,2)=4 term(3,3)=0",
            "term(8,0)=-1 term(-1,0)=-1 term(8,4)=-1 term(0,4)=-2 term(0,-1)=-2 term(MAX,0)=-1 term(MIN,0)=-1 term(0,MIN)=-2");
        run("promise 31: an element outside the subalgebra, and the order of its refusals",
            "reset(0,3)=1 addGenerator(1)=1 generate(0)=4 term(2,0)=-6 term(2,1)=-6 term(2,2)=-6 term(2,3)=-6 term(2,4)=-2",
            "term(2,-1)=-2 term(6,0)=3 term(6,1)=2 term(6,2)=1 term(6,3)=0 term(4,0)=-6");
        run("promise 31: of equal costs the meet comes before the join, and both before the implication",
            "reset(0,3)=1 addGenerator(4)=1 addGenerator(5)=2 generate(0)=8 term(1,0)=3 term(1,1)=0 term(1,2)=4 term(1,3)=5",
            "term(6,0)=5 term(6,1)=2 term(6,2)=1 term(6,3)=0 term(2,0)=3 term(2,1)=2 term(2,2)=5 term(2,3)=0",
            "addGenerator(6)=3 generate(0)=8 term(2,0)=3 term(2,1)=0 term(2,2)=4 term(2,3)=6 clearGenerators()=3 addGenerator(3)=1",
            "addGenerator(2)=2 addGenerator(1)=3 generate(0)=8 term(4,0)=3 term(4,1)=1 term(4,2)=1 term(4,3)=2");
    }

    private static void maps() {
        run("promise 32: countMaps between 0 < 1 and two points, of all kinds",
            "reset(0,2)=1 relate(0,0,1)=1 reset(1,2)=1 countMaps(0,0,0)=3 countMaps(0,0,1)=2 countMaps(0,0,2)=1 countMaps(0,0,3)=1",
            "countMaps(0,1,0)=2 countMaps(0,1,1)=2 countMaps(0,1,2)=0 countMaps(0,1,3)=0 countMaps(1,0,0)=4 countMaps(1,0,1)=1",
            "countMaps(1,0,2)=0 countMaps(1,0,3)=0 countMaps(1,1,0)=4 countMaps(1,1,1)=4 countMaps(1,1,2)=2 countMaps(1,1,3)=2",
            "countMaps(0,2,1)=1 countMaps(0,2,2)=1 countMaps(2,0,3)=2 countMaps(2,0,1)=1");
        run("promise 32: refusals",
            "countMaps(4,0,0)=-1 countMaps(0,4,0)=-1 countMaps(-1,0,0)=-1 countMaps(0,-1,0)=-1 countMaps(4,0,9)=-1",
            "countMaps(0,0,4)=-2 countMaps(0,0,-1)=-2 countMaps(0,0,MIN)=-2 countMaps(MAX,0,0)=-1");
        run("promise 32: the most maps there are",
            "reset(0,6)=1 countMaps(0,0,0)=46656 countMaps(0,0,1)=46656 countMaps(0,0,2)=720 countMaps(0,0,3)=720");
        run("promise 33: firstMap",
            "reset(0,3)=1 reset(1,3)=1 relate(1,2,1)=1 relate(1,1,0)=3 firstMap(1,1,3)=12 firstMap(0,1,0)=0 firstMap(0,1,1)=0",
            "firstMap(0,1,2)=-6 firstMap(1,0,0)=0 firstMap(1,0,3)=-6 dual(1,2)=3 firstMap(1,2,3)=210 firstMap(2,1,1)=0",
            "firstMap(0,0,2)=12 firstMap(0,0,3)=12 reset(3,6)=1 firstMap(3,3,3)=12345 firstMap(3,0,2)=12 firstMap(0,3,3)=12",
            "firstMap(1,2,1)=210 reset(0,1)=3 firstMap(0,2,1)=2 firstMap(0,2,3)=0");
        run("promise 33: the digits of a map that begins high",
            "reset(0,6)=1 relate(0,5,4)=1 relate(0,4,3)=3 relate(0,3,2)=6 relate(0,2,1)=10 relate(0,1,0)=15 dual(0,1)=6",
            "firstMap(0,1,3)=543210 firstMap(1,0,3)=543210 firstMap(0,1,2)=543210 firstMap(0,1,1)=543210 firstMap(0,1,0)=0");
        run("promise 33: refusals",
            "firstMap(4,0,0)=-1 firstMap(0,4,0)=-1 firstMap(-1,0,0)=-1 firstMap(0,-1,9)=-1 firstMap(0,0,4)=-2 firstMap(0,0,-1)=-2",
            "firstMap(0,0,MAX)=-2 firstMap(0,0,0)=0 reset(1,2)=1 firstMap(0,1,2)=-6 firstMap(1,0,3)=-6");
        run("promise 34: isIsomorphic",
            "isIsomorphic(0,0)=1 isIsomorphic(0,1)=1 reset(0,3)=1 isIsomorphic(0,1)=0 isIsomorphic(1,0)=0 reset(1,3)=1",
            "isIsomorphic(0,1)=1 relate(0,2,0)=1 isIsomorphic(0,1)=0 isIsomorphic(1,0)=0 relate(1,0,1)=1 isIsomorphic(0,1)=1",
            "relate(0,2,1)=2 relate(1,2,1)=2 isIsomorphic(0,1)=0 isIsomorphic(1,0)=0 isIsomorphic(4,0)=-1 isIsomorphic(0,4)=-1",
            "isIsomorphic(-1,0)=-1 isIsomorphic(0,-1)=-1 isIsomorphic(MIN,MAX)=-1");
    }

    private static void madePosets() {
        run("promise 35: sum",
            "reset(0,2)=1 relate(0,1,0)=1 reset(1,3)=1 relate(1,0,2)=1 sum(0,1,0,2)=5 points(2)=5 property(2,5)=2 isBelow(2,1,0)=1",
            "isBelow(2,2,4)=1 isBelow(2,0,4)=0 sum(0,1,1,2)=5 property(2,5)=8 isBelow(2,0,2)=1 isBelow(2,2,0)=0 isBelow(2,1,4)=1",
            "isBelow(2,0,1)=0 sum(0,0,1,0)=4 points(0)=4 property(0,5)=6 isBelow(0,1,0)=1 isBelow(0,3,2)=1 isBelow(0,0,3)=1",
            "sum(0,1,0,0)=-5 points(0)=4 sum(1,1,0,1)=6 points(1)=6 property(1,5)=2 isBelow(1,3,5)=1");
        run("promise 35: the target is the second poset",
            "reset(0,1)=1 reset(1,2)=1 relate(1,1,0)=1 sum(0,1,1,1)=3 isBelow(1,0,1)=1 isBelow(1,0,2)=1 isBelow(1,2,1)=1 points(0)=1");
        run("promise 35: refusals",
            "sum(4,0,0,0)=-1 sum(0,4,0,0)=-1 sum(0,0,0,4)=-1 sum(-1,0,0,0)=-1 sum(0,-1,0,0)=-1 sum(0,0,0,-1)=-1 sum(4,0,2,0)=-1",
            "sum(0,0,2,4)=-1 sum(0,0,2,0)=-2 sum(0,0,-1,0)=-2 reset(0,6)=1 sum(0,1,2,0)=-2 sum(0,1,0,2)=-5 points(2)=1 sum(1,1,0,3)=2");
        run("promise 36: product",
            "reset(0,2)=1 relate(0,0,1)=1 reset(1,3)=1 relate(1,2,1)=1 product(0,1,2)=6 points(2)=6 property(2,5)=6 isBelow(2,2,4)=1",
            "isBelow(2,0,3)=1 isBelow(2,0,4)=0 isBelow(2,5,4)=1 product(1,0,3)=6 isBelow(3,4,3)=1 isBelow(3,4,2)=1 isBelow(3,2,4)=0 isBelow(3,0,1)=1",
            "isIsomorphic(2,3)=1 product(0,0,0)=4 points(0)=4 property(0,5)=5 isBelow(0,1,2)=0 isBelow(0,0,3)=1 product(0,1,2)=-5",
            "points(2)=6 reset(2,1)=6 product(2,0,1)=4 isIsomorphic(1,0)=1 product(0,2,0)=4 isIsomorphic(1,0)=1");
        run("promise 36: refusals",
            "product(4,0,0)=-1 product(0,4,0)=-1 product(0,0,4)=-1 product(-1,0,0)=-1 product(0,-1,0)=-1 product(0,0,-1)=-1",
            "reset(0,6)=1 product(0,0,1)=-5 product(0,0,4)=-1 points(1)=1 product(0,1,1)=6 points(1)=6");
        run("promise 37: restrict",
            "reset(0,5)=1 relate(0,0,3)=1 relate(0,1,4)=2 relate(0,3,4)=4 elementOf(0,26)=8 restrict(0,8,1)=3 property(1,5)=2",
            "isBelow(1,0,2)=1 isBelow(1,1,2)=1 isBelow(1,0,1)=0 restrict(0,0,1)=-2 points(1)=3 restrict(0,8,0)=3 points(0)=3",
            "isIsomorphic(0,1)=1 isBelow(0,1,2)=1 restrict(0,4,0)=3 points(0)=3");
        run("promise 37: restrict keeps point 0",
            "reset(0,4)=1 relate(0,0,3)=1 elementOf(0,9)=5 restrict(0,5,1)=2 isBelow(1,0,1)=1 isBelow(1,1,0)=0 isBelow(1,0,0)=1");
        run("promise 37: refusals",
            "restrict(0,2,0)=-1 restrict(0,-1,0)=-1 restrict(4,1,0)=-1 restrict(0,1,4)=-1 restrict(0,1,-1)=-1 restrict(-1,1,0)=-1",
            "restrict(0,0,4)=-1 restrict(0,0,0)=-2 restrict(0,MAX,0)=-1 restrict(0,1,0)=1 reset(1,3)=1 restrict(0,2,1)=-1 points(1)=3");
        run("promise 38: dual",
            "reset(0,3)=1 relate(0,0,1)=1 relate(0,0,2)=2 dual(0,1)=3 isBelow(1,1,0)=1 isBelow(1,2,0)=1 isBelow(1,0,1)=0",
            "property(1,2)=2 property(1,3)=1 property(0,2)=1 elementCount(1)=5 elementBits(1,1)=1 dual(0,0)=3 isIsomorphic(0,1)=1",
            "dual(0,0)=3 isIsomorphic(0,1)=0 dual(4,0)=-1 dual(0,4)=-1 dual(-1,0)=-1 dual(0,-1)=-1 dual(2,0)=1 points(0)=1");
    }

    private static void valuationsAreForgotten() {
        String set = "reset(0,2)=1 relate(0,0,1)=1 setValue(0,0,1)=0 setValue(0,1,2)=0 setValue(0,2,1)=0 setValue(1,0,1)=0 ";
        String gone = " setValue(0,0,0)=0 setValue(0,1,0)=0 setValue(0,2,0)=0 setValue(1,0,0)=1";
        String kept = " setValue(0,0,0)=1 setValue(0,1,0)=2 setValue(0,2,0)=1 setValue(1,0,0)=1";
        run("a valuation behind reset", set, "reset(0,2)=2", gone);
        run("a valuation behind sum", set, "sum(1,1,1,0)=2", gone);
        run("a valuation behind product", set, "product(0,1,0)=2", gone);
        run("a valuation behind restrict", set, "restrict(0,2,0)=2", gone);
        run("a valuation behind dual", set, "dual(0,0)=2", gone);
        run("a valuation behind loadOrder", set, "allocate(0,0,2)=2 loadOrder(0,0)=1", gone);
        run("a valuation behind refusals", set, "reset(0,7)=-2 relate(0,1,0)=-4 sum(0,0,2,0)=-2 restrict(0,0,0)=-2 dual(4,0)=-1",
            "allocate(0,0,2)=2 put(0,0,1)=1 loadOrder(0,0)=0 allocate(0,0,1)=1 loadOrder(0,0)=0 allocate(0,0,0)=0 loadOrder(0,0)=0", kept);
        run("a valuation behind the making of other posets", set, "sum(0,0,0,2)=4 dual(0,3)=2 product(0,1,2)=2 restrict(0,1,2)=1", kept);
        run("a valuation behind questions", set, "write(p>q) parse(0)=3 isValid(0,0)=0 refutation(0,0,0)=1 countValuations(0,0,0)=2",
            "generate(0)=2 countMaps(0,0,0)=3 value(0,0)=2", kept);
    }

    private static void rows() {
        run("promise 39: allocate",
            "allocate(0,0,30)=30 allocate(1,1,0)=0 allocate(2,2,5)=5 allocate(0,0,31)=-2 allocate(0,3,1)=-2 allocate(0,-1,1)=-2",
            "allocate(0,0,-1)=-11 allocate(0,3,-1)=-2 allocate(0,0,MIN)=-11 allocate(0,0,MAX)=-2 allocate(3,0,1)=-1 allocate(-1,0,1)=-1",
            "allocate(3,9,-1)=-1 rowElement(0,29)=0 put(0,29,7)=1 allocate(0,0,31)=-2 rowElement(0,29)=7 allocate(0,0,-1)=-11",
            "rowElement(0,29)=7 allocate(0,2,30)=30 rowElement(0,29)=0 put(0,3,9)=1 allocate(0,2,2)=2 rowElement(0,3)=NOTHING",
            "allocate(0,2,4)=4 rowElement(0,3)=0 put(0,0,8)=1 allocate(0,2,4)=4 rowElement(0,0)=0");
        run("promise 40: put",
            "put(0,0,1)=-8 put(3,0,1)=-1 put(-1,0,1)=-1 allocate(0,0,3)=3 put(0,3,1)=-10 put(0,-1,1)=-10 put(0,MIN,1)=-10 put(0,MAX,1)=-10",
            "put(0,0,128)=1 rowElement(0,0)=-128 put(0,1,-129)=1 rowElement(0,1)=127 put(0,2,256)=1 rowElement(0,2)=0",
            "put(0,2,MAX)=1 rowElement(0,2)=-1 put(0,2,MIN)=1 rowElement(0,2)=0 put(0,2,-128)=1 rowElement(0,2)=-128",
            "allocate(1,1,2)=2 put(1,0,32768)=1 rowElement(1,0)=-32768 put(1,1,65535)=1 rowElement(1,1)=-1 put(1,0,-32769)=1",
            "rowElement(1,0)=32767 put(1,0,128)=1 rowElement(1,0)=128 allocate(2,2,2)=2 put(2,0,MIN)=1 rowElement(2,0)=MIN put(2,1,MAX)=1",
            "rowElement(2,1)=MAX put(2,1,40000)=1 rowElement(2,1)=40000 put(1,2,0)=-10 allocate(1,1,0)=0 put(1,0,0)=-10");
        run("promise 41: rowElement",
            "rowElement(0,0)=NOTHING rowElement(3,0)=NOTHING rowElement(-1,0)=NOTHING allocate(0,2,2)=2 rowElement(0,0)=0 rowElement(0,1)=0",
            "rowElement(0,2)=NOTHING rowElement(0,-1)=NOTHING rowElement(0,MIN)=NOTHING rowElement(0,MAX)=NOTHING rowElement(1,0)=NOTHING",
            "put(0,1,-5)=1 rowElement(0,1)=-5 rowElement(0,0)=0 allocate(0,2,0)=0 rowElement(0,0)=NOTHING");
    }

    private static void copies() {
        String fill = "allocate(0,2,5)=5 put(0,0,1)=1 put(0,1,2)=1 put(0,2,3)=1 put(0,3,4)=1 put(0,4,5)=1 ";
        run("promise 42: copies within a row that overlap", fill,
            "copyElements(0,0,0,1,4)=4 rowElement(0,0)=1 rowElement(0,1)=1 rowElement(0,2)=2 rowElement(0,3)=3 rowElement(0,4)=4",
            "copyElements(0,2,0,0,3)=3 rowElement(0,0)=2 rowElement(0,1)=3 rowElement(0,2)=4 rowElement(0,3)=3 rowElement(0,4)=4",
            "copyElements(0,0,0,0,5)=5 rowElement(0,4)=4");
        run("promise 42: copies from row to row", fill,
            "allocate(1,2,3)=3 copyElements(0,3,1,1,2)=2 rowElement(1,0)=0 rowElement(1,1)=4 rowElement(1,2)=5 rowElement(0,3)=4",
            "copyElements(0,5,1,3,0)=0 copyElements(0,6,1,3,0)=-10 copyElements(0,5,1,4,0)=-10 copyElements(0,0,1,0,4)=-10",
            "copyElements(0,4,1,0,2)=-10 copyElements(0,0,1,2,2)=-10 copyElements(0,-1,1,0,1)=-10 copyElements(0,0,1,-1,1)=-10",
            "copyElements(0,0,1,0,-1)=-10 copyElements(0,MAX,1,0,MAX)=-10 copyElements(0,1,1,0,MAX)=-10 copyElements(0,MIN,1,0,MIN)=-10",
            "copyElements(0,0,1,MAX,1)=-10 copyElements(0,2,1,2,-1)=-10 rowElement(1,0)=0 rowElement(1,1)=4 rowElement(1,2)=5",
            "allocate(1,2,0)=0 copyElements(0,0,1,0,0)=0 copyElements(1,0,1,0,0)=0 copyElements(1,0,0,0,1)=-10");
        run("promise 42: refusals and their order",
            "copyElements(3,0,0,0,0)=-1 copyElements(0,0,3,0,0)=-1 copyElements(-1,0,0,0,0)=-1 copyElements(0,0,-1,0,-1)=-1",
            "copyElements(0,0,1,0,0)=-8 allocate(0,0,2)=2 copyElements(0,0,1,0,-1)=-8 copyElements(1,0,0,0,0)=-8 allocate(1,1,2)=2",
            "copyElements(0,0,1,0,0)=-9 copyElements(0,0,1,0,-1)=-9 copyElements(0,9,1,9,9)=-9 allocate(1,0,2)=2 copyElements(0,0,1,0,3)=-10",
            "put(0,0,200)=1 copyElements(0,0,1,1,1)=1 rowElement(1,1)=-56");
    }

    private static void stored() {
        run("promise 43: storeElements",
            "storeElements(0,0)=-8 storeElements(3,0)=-1 storeElements(0,4)=-1 storeElements(-1,0)=-1 storeElements(0,-1)=-1",
            "allocate(0,2,6)=6 put(0,5,9)=1 put(0,4,9)=1 put(0,0,9)=1 reset(0,2)=1 storeElements(0,0)=4 rowElement(0,0)=0 rowElement(0,1)=1",
            "rowElement(0,2)=2 rowElement(0,3)=3 rowElement(0,4)=9 rowElement(0,5)=9 relate(0,1,0)=1 storeElements(0,0)=3",
            "rowElement(0,1)=1 rowElement(0,2)=3 rowElement(0,3)=3 storeElements(1,0)=-8 storeElements(1,4)=-1");
        run("promise 43: a row that is shorter is set all the same",
            "reset(0,3)=1 allocate(0,0,7)=7 storeElements(0,0)=-10 rowElement(0,0)=0 rowElement(0,3)=4 rowElement(0,4)=3 rowElement(0,6)=6",
            "allocate(0,0,8)=8 storeElements(0,0)=8 rowElement(0,7)=7 allocate(0,1,0)=0 storeElements(0,0)=-10 reset(0,6)=3",
            "allocate(1,0,30)=30 storeElements(1,0)=-10 rowElement(1,6)=32 rowElement(1,29)=25 rowElement(1,22)=7");
    }

    private static void loaded() {
        run("promises 44 and 45: all elements are used",
            "failure()=0 reset(0,3)=1 allocate(0,0,6)=6 put(0,0,2)=1 put(0,1,1)=1 put(0,2,1)=1 put(0,3,0)=1 loadOrder(0,0)=3 failure()=0",
            "property(0,5)=3 isBelow(0,2,0)=1 allocate(0,0,0)=0 loadOrder(0,0)=0 failure()=0");
        run("promises 44 and 45: a single element is left",
            "reset(0,3)=1 allocate(0,1,3)=3 put(0,1,1)=1 put(0,2,9)=1 loadOrder(0,0)=1 failure()=3 isBelow(0,0,1)=1",
            "allocate(0,1,1)=1 loadOrder(0,0)=0 failure()=3 allocate(0,1,2)=2 loadOrder(0,0)=1 failure()=0");
        run("promises 44 and 45: a point that there is not, and a cycle",
            "reset(0,3)=1 allocate(0,2,5)=5 put(0,1,1)=1 put(0,2,1)=1 put(0,3,3)=1 loadOrder(0,0)=1 failure()=1 isBelow(0,0,1)=1",
            "put(0,3,0)=1 loadOrder(0,0)=1 failure()=2 put(0,0,-1)=1 loadOrder(0,0)=0 failure()=1 put(0,0,MIN)=1 loadOrder(0,0)=0",
            "failure()=1 put(0,0,1)=1 put(0,1,0)=1 loadOrder(0,0)=0 failure()=2 property(0,5)=1");
        run("promises 44 and 45: refusals leave the failure",
            "loadOrder(0,0)=-8 loadOrder(3,0)=-1 loadOrder(0,4)=-1 loadOrder(-1,0)=-1 loadOrder(0,-1)=-1 failure()=0 allocate(0,0,1)=1",
            "loadOrder(0,0)=0 failure()=3 loadOrder(1,0)=-8 failure()=3 loadOrder(3,0)=-1 failure()=3 loadOrder(0,4)=-1 failure()=3",
            "loadOrder(1,4)=-1 relate(0,0,9)=-1 failure()=3 relate(0,0,0)=0 failure()=3 allocate(0,0,4)=4 failure()=3 loadOrder(0,0)=2 failure()=0");
        run("promise 44: bytes that were narrowed are what is related",
            "reset(0,2)=1 allocate(0,0,2)=2 put(0,1,257)=1 loadOrder(0,0)=1 isBelow(0,0,1)=1 put(0,1,255)=1 loadOrder(0,0)=0 failure()=1");
        run("promise 44: a row of 30 elements",
            "reset(0,6)=1 allocate(0,0,30)=30 loadOrder(0,0)=15 failure()=0 put(0,28,5)=1 loadOrder(0,0)=15 isBelow(0,5,0)=1",
            "put(0,29,6)=1 loadOrder(0,0)=14 failure()=1");
    }

    /** The examples are read from the document itself, so that none of them is copied wrongly. */
    private static void examples() {
        String document = Calls.document();
        int begin = document.indexOf("## Examples") + "## Examples".length();
        String words = document.substring(begin, document.indexOf("## ", begin)).replaceAll("\\s+", " ");
        String[] parts = words.split("(?=[A-Z][a-z ]+:)");
        int found = 0;
        for (String part : parts) {
            if (!part.isBlank()) {
                int colon = part.indexOf(':');
                found++;
                run("example: " + part.substring(0, colon),
                    part.substring(colon + 1).replace(" -> ", "=").replaceAll(", ", " "));
            }
        }
        Calls.expect(found == 5, "the document has 5 examples, found " + found);
    }
}
