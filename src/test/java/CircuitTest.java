/** Long runs of mixed calls, wrong ones among them, compared with Circuit. */
public final class CircuitTest {
    private static final int RUNS = 150;
    private static final int CALLS = 512;
    private static final int METHODS = 16;

    // A plain congruential row, so that every run of the test asks the same.
    private static long state = 1;

    public static void main(String[] args) {
        Checks checks = new Checks();
        for (int run = 0; run < RUNS; run++) {
            // Runs differ in how fast they grow: some stay small and drop often, some fill up.
            int gatesInTen = 1 + run % 5;
            SweepChecker checker = new SweepChecker();
            Circuit circuit = new Circuit();
            for (int call = 0; call < CALLS; call++) {
                int method = below(10) < gatesInTen ? 0 : below(METHODS);
                compare(checks, "run " + run + ", call " + call, method, checker, circuit);
            }
        }
        checks.done();
    }

    private static int below(int bound) {
        state = state * 6364136223846793005L + 1442695040888963407L;
        return (int) ((state >>> 33) % bound);
    }

    /** Mostly a number that is there; now and then one just outside, or far outside. */
    private static int upTo(int bound) {
        switch (below(40)) {
            case 0: return -1;
            case 1: return bound;
            case 2: return below(2) == 0 ? Integer.MIN_VALUE : Integer.MAX_VALUE;
            default: return below(bound);
        }
    }

    private static void compare(Checks checks, String where, int method, SweepChecker s, Circuit m) {
        int kind = upTo(10);
        int a = upTo(m.wires());
        int b = upTo(m.wires());
        int c = upTo(m.wires());
        int i = upTo(8);
        int j = upTo(8);
        int x = upTo(256);
        String ab = "(" + a + ", " + b + ")";
        String at = where + ": ";
        switch (method) {
            case 0:
                String call = at + "gate(" + kind + ", " + a + ", " + b + ", " + c + ")";
                checks.same(call, s.gate(kind, a, b, c), m.gate(kind, a, b, c));
                break;
            case 1: checks.same(at + "drop()", s.drop(), m.drop()); break;
            case 2: checks.same(at + "wires()", s.wires(), m.wires()); break;
            case 3: checks.same(at + "value(" + a + ", " + x + ")", s.value(a, x), m.value(a, x)); break;
            case 4: checks.same(at + "equal" + ab, s.equal(a, b), m.equal(a, b)); break;
            case 5: checks.same(at + "opposite" + ab, s.opposite(a, b), m.opposite(a, b)); break;
            case 6: checks.same(at + "constant(" + a + ")", s.constant(a), m.constant(a)); break;
            case 7: checks.same(at + "implies" + ab, s.implies(a, b), m.implies(a, b)); break;
            case 8: checks.same(at + "count(" + a + ")", s.count(a), m.count(a)); break;
            case 9: checks.same(at + "witness(" + a + ")", s.witness(a), m.witness(a)); break;
            case 10: checks.same(at + "differ" + ab, s.differ(a, b), m.differ(a, b)); break;
            case 11: checks.same(at + "depends(" + a + ")", s.depends(a), m.depends(a)); break;
            case 12: checks.same(at + "first(" + a + ")", s.first(a), m.first(a)); break;
            case 13: checks.same(at + "groups()", s.groups(), m.groups()); break;
            case 14:
                String triple = "(" + a + ", " + i + ", " + j + ")";
                checks.same(at + "symmetric" + triple, s.symmetric(a, i, j), m.symmetric(a, i, j));
                break;
            default:
                checks.same(at + "follows(" + a + ", " + i + ")", s.follows(a, i), m.follows(a, i));
                break;
        }
    }
}
