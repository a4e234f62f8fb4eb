import java.util.LinkedHashMap;
import java.util.Map;

/** What is there after a refused call, after a wire was taken away, and up to the 512th call. */
public final class StateTest {
    private static final int BAD = -1;
    private static final int FULL = -2;
    private static final int NONE = -3;
    private static final int CALLS = 512;

    private static final Checks CHECKS = new Checks();

    private interface Call {
        long of(SweepChecker s);
    }

    public static void main(String[] args) {
        refusedCallsChangeNothing();
        refusedGatesWhenFullChangeNothing();
        refusedDropsChangeNothing();
        answersChangeNothing();
        wireTakenAwayIsNoWire();
        numberIsTheNextOneAgain();
        nothingIsLeftOfAWireTakenAway();
        allWiresTakenAwayAndMadeAnew();
        lastCallIsAnsweredLikeTheFirst();
        refusedCallsUpToTheLast();
        gatesAndDropsUpToTheLast();
        CHECKS.done();
    }

    private static void due(String call, long got, long want) {
        CHECKS.same(call, got, want);
    }

    private static long number(boolean answer) {
        return answer ? 1 : 0;
    }

    /** Every call with a wire's number in every place, the number being no wire. */
    private static Map<String, Call> callsWithNoWire(int no) {
        Map<String, Call> calls = new LinkedHashMap<>();
        for (int k = 0; k <= 9; k++) {
            int kind = k;
            calls.put("gate(" + kind + ", no, 0, 0)", s -> s.gate(kind, no, 0, 0));
            calls.put("gate(" + kind + ", 0, no, 0)", s -> s.gate(kind, 0, no, 0));
        }
        for (int k = 7; k <= 9; k++) {
            int kind = k;
            calls.put("gate(" + kind + ", 0, 1, no)", s -> s.gate(kind, 0, 1, no));
        }
        calls.put("value(no, 255)", s -> s.value(no, 255));
        calls.put("constant(no)", s -> s.constant(no));
        calls.put("count(no)", s -> s.count(no));
        calls.put("witness(no)", s -> s.witness(no));
        calls.put("differ(no, 7)", s -> s.differ(no, 7));
        calls.put("differ(7, no)", s -> s.differ(7, no));
        calls.put("differ(no, no)", s -> s.differ(no, no));
        calls.put("depends(no)", s -> s.depends(no));
        calls.put("first(no)", s -> s.first(no));
        calls.put("follows(no, 0)", s -> s.follows(no, 0));
        return calls;
    }

    private static Map<String, Call> falseCallsWithNoWire(int no) {
        Map<String, Call> calls = new LinkedHashMap<>();
        calls.put("equal(no, 0)", s -> number(s.equal(no, 0)));
        calls.put("equal(0, no)", s -> number(s.equal(0, no)));
        calls.put("equal(no, no)", s -> number(s.equal(no, no)));
        calls.put("opposite(no, 0)", s -> number(s.opposite(no, 0)));
        calls.put("opposite(0, no)", s -> number(s.opposite(0, no)));
        calls.put("implies(no, no)", s -> number(s.implies(no, no)));
        calls.put("implies(no, 0)", s -> number(s.implies(no, 0)));
        calls.put("implies(0, no)", s -> number(s.implies(0, no)));
        calls.put("symmetric(no, 0, 0)", s -> number(s.symmetric(no, 0, 0)));
        calls.put("symmetric(no, 3, 7)", s -> number(s.symmetric(no, 3, 7)));
        return calls;
    }

    private static Map<String, Call> callsWithAnotherWrongNumber() {
        Map<String, Call> calls = new LinkedHashMap<>();
        for (int no : new int[] {-1, 10, Integer.MIN_VALUE, Integer.MAX_VALUE}) {
            calls.put("gate(" + no + ", 0, 1, 2)", s -> s.gate(no, 0, 1, 2));
        }
        for (int no : new int[] {-1, 256, Integer.MIN_VALUE, Integer.MAX_VALUE}) {
            calls.put("value(7, " + no + ")", s -> s.value(7, no));
        }
        for (int no : new int[] {-1, 8, Integer.MIN_VALUE, Integer.MAX_VALUE}) {
            calls.put("follows(7, " + no + ")", s -> s.follows(7, no));
        }
        return calls;
    }

    /** The wires are those of Samples.grownTo(size), and the next number is size. */
    private static void holds(String when, int size, Call before) {
        for (int w = 0; w < size; w++) {
            SweepChecker s = Samples.droppedTo(size);
            before.of(s);
            for (int x = 0; x < 256; x++) {
                due(when + ", value(" + w + ", " + x + ")", s.value(w, x), Samples.value(w, x));
            }
        }
        SweepChecker s = Samples.droppedTo(size);
        before.of(s);
        due(when + ", wires()", s.wires(), size);
        due(when + ", groups()", s.groups(), Math.min(size, 16));
        due(when + ", first(size)", s.first(size), BAD);
        due(when + ", gate", s.gate(0, 0, 1, 0), size < 40 ? size : FULL);
        due(when + ", wires() then", s.wires(), Math.min(size + 1, 40));
    }

    private static void refused(int size, Map<String, Call> calls, long refusal) {
        for (Map.Entry<String, Call> entry : calls.entrySet()) {
            String when = entry.getKey() + " with " + size + " wires";
            due(when, entry.getValue().of(Samples.droppedTo(size)), refusal);
            holds("after " + when, size, entry.getValue());
        }
    }

    private static void refusedCallsChangeNothing() {
        for (int size : new int[] {8, 9, 39, 40}) {
            for (int no : new int[] {-1, size, Integer.MIN_VALUE, Integer.MAX_VALUE}) {
                refused(size, callsWithNoWire(no), BAD);
                refused(size, falseCallsWithNoWire(no), 0);
            }
            refused(size, callsWithAnotherWrongNumber(), BAD);
            for (int no : new int[] {-1, 8, Integer.MIN_VALUE, Integer.MAX_VALUE}) {
                Map<String, Call> calls = new LinkedHashMap<>();
                calls.put("symmetric(7, no, 0)", s -> number(s.symmetric(7, no, 0)));
                calls.put("symmetric(7, 0, no)", s -> number(s.symmetric(7, 0, no)));
                calls.put("symmetric(7, no, no)", s -> number(s.symmetric(7, no, no)));
                refused(size, calls, 0);
            }
        }
    }

    private static void refusedGatesWhenFullChangeNothing() {
        for (int k = 0; k <= 9; k++) {
            int kind = k;
            Call gate = s -> s.gate(kind, 39, 7, 0);
            due("gate(" + kind + ") when full", gate.of(Samples.grownTo(40)), FULL);
            holds("after a gate of kind " + kind + " when full", 40, gate);
        }
    }

    private static void refusedDropsChangeNothing() {
        Call drops = s -> s.drop() + s.drop() + s.drop();
        due("three drops of the inputs", drops.of(new SweepChecker()), 3 * BAD);
        holds("after three drops of the inputs", 8, drops);
    }

    /** A call that only asks makes no wire and takes none away either. */
    private static void answersChangeNothing() {
        for (int size : new int[] {8, 25, 40}) {
            holds("after every question", size, s -> {
                long sum = s.wires() + s.groups();
                for (int w : new int[] {0, size - 1}) {
                    sum += s.value(w, 255) + s.constant(w) + s.count(w) + s.witness(w);
                    sum += s.depends(w) + s.first(w) + s.follows(w, 7) + s.differ(w, 3);
                    sum += number(s.equal(w, 3)) + number(s.opposite(w, 3));
                    sum += number(s.implies(w, 3)) + number(s.symmetric(w, 0, 7));
                }
                return sum;
            });
        }
    }

    private static void wireTakenAwayIsNoWire() {
        for (int size = 9; size <= 40; size++) {
            int gone = size - 1;
            for (Map.Entry<String, Call> entry : callsWithNoWire(gone).entrySet()) {
                SweepChecker s = Samples.grownTo(size);
                due("the last of " + size + " goes", s.drop(), gone);
                due(entry.getKey() + ", no = " + gone, entry.getValue().of(s), BAD);
                due("nothing is made", s.wires(), gone);
            }
            for (Map.Entry<String, Call> entry : falseCallsWithNoWire(gone).entrySet()) {
                SweepChecker s = Samples.grownTo(size);
                s.drop();
                due(entry.getKey() + ", no = " + gone, entry.getValue().of(s), 0);
            }
            everyWireAboveIsGone(size);
        }
    }

    private static void everyWireAboveIsGone(int size) {
        for (int gone = size; gone < 40; gone++) {
            SweepChecker s = Samples.droppedTo(size);
            due("value(" + gone + ", 0)", s.value(gone, 0), BAD);
            due("equal(" + gone + ", itself)", number(s.equal(gone, gone)), 0);
            due("opposite(" + gone + ", 8 less)", number(s.opposite(gone, gone - 8)), 0);
            due("differ(" + gone + ", 0)", s.differ(gone, 0), BAD);
            due("first(" + gone + ")", s.first(gone), BAD);
            due("gate of " + gone, s.gate(1, gone, 0, 0), BAD);
        }
        SweepChecker s = Samples.droppedTo(size);
        due("the one below stays", s.first(size - 1), (size - 1) % 16);
    }

    private static void numberIsTheNextOneAgain() {
        for (int size = 8; size < 40; size++) {
            SweepChecker s = Samples.grownTo(size);
            for (int kind = 0; kind <= 9; kind++) {
                due("gate " + kind + " after a drop", s.gate(kind, 0, 1, 2), size);
                due("one more", s.wires(), size + 1);
                due("drop after gate " + kind, s.drop(), size);
                due("refused between", s.gate(kind, size, 1, 2), BAD);
                due("one less", s.wires(), size);
            }
        }
    }

    private static void nothingIsLeftOfAWireTakenAway() {
        int[] zeroOneInput = {2, 5, 0};
        for (int size = 8; size < 40; size++) {
            for (int old : zeroOneInput) {
                for (int young : zeroOneInput) {
                    SweepChecker s = Samples.grownTo(size);
                    s.gate(old, 7, 7, 0);
                    s.drop();
                    due("made anew", s.gate(young, 7, 7, 0), size);
                    int ones = young == 2 ? 0 : young == 5 ? 256 : 128;
                    due("count of the new one", s.count(size), ones);
                    due("witness of the new one", s.witness(size),
                            young == 2 ? NONE : young == 5 ? 0 : 128);
                    due("depends of the new one", s.depends(size), young == 0 ? 128 : 0);
                }
            }
        }
    }

    private static void allWiresTakenAwayAndMadeAnew() {
        for (int w = 0; w < 40; w++) {
            SweepChecker s = new SweepChecker();
            for (int made = 8; made < 40; made++) {
                s.gate(made % 10, made - 1, made - 3, made - 5);
            }
            Samples.dropTo(s, 8);
            due("only the inputs are left", s.drop(), BAD);
            Samples.growTo(s, 40);
            due("full again", s.gate(0, 0, 0, 0), FULL);
            for (int x = 0; x < 256; x++) {
                due("made anew, value(" + w + ", " + x + ")", s.value(w, x), Samples.value(w, x));
            }
        }
    }

    /** 511 calls: 31 gates, and then drops, gates and questions that leave 39 wires. */
    private static SweepChecker beforeTheLastCall() {
        SweepChecker s = new SweepChecker();
        int calls = 0;
        for (int w = 8; w < 39; w++) {
            due("gate of a long run", s.gate(3, w - 8, w - 8, 0), w);
            calls++;
        }
        while (calls + 4 <= CALLS - 1) {
            due("drop of a long run", s.drop(), 38);
            due("gate of a long run", s.gate(3, 30, 30, 0), 38);
            due("refused gate of a long run", s.gate(7, 30, 30, 39), BAD);
            due("wires of a long run", s.wires(), 39);
            calls += 4;
        }
        while (calls < CALLS - 1) {
            due("groups of a long run", s.groups(), 16);
            calls++;
        }
        return s;
    }

    // "An object is used for at most 512 calls after it has been made": the 512th still holds.
    private static void lastCallIsAnsweredLikeTheFirst() {
        due("512th: gate", beforeTheLastCall().gate(8, 0, 1, 38), 39);
        due("512th: gate, refused", beforeTheLastCall().gate(8, 0, 1, 39), BAD);
        due("512th: drop", beforeTheLastCall().drop(), 38);
        due("512th: wires", beforeTheLastCall().wires(), 39);
        due("512th: value", beforeTheLastCall().value(38, 64), 1);
        due("512th: value, refused", beforeTheLastCall().value(38, 256), BAD);
        due("512th: equal", number(beforeTheLastCall().equal(38, 6)), 1);
        due("512th: opposite", number(beforeTheLastCall().opposite(38, 14)), 1);
        due("512th: constant", beforeTheLastCall().constant(38), NONE);
        due("512th: implies", number(beforeTheLastCall().implies(38, 22)), 1);
        due("512th: count", beforeTheLastCall().count(38), 128);
        due("512th: witness", beforeTheLastCall().witness(38), 64);
        due("512th: differ", beforeTheLastCall().differ(38, 7), 64);
        due("512th: depends", beforeTheLastCall().depends(38), 64);
        due("512th: first", beforeTheLastCall().first(38), 6);
        due("512th: groups", beforeTheLastCall().groups(), 16);
        due("512th: symmetric", number(beforeTheLastCall().symmetric(38, 0, 7)), 1);
        due("512th: follows", beforeTheLastCall().follows(38, 6), 1);
    }

    private static void refusedCallsUpToTheLast() {
        SweepChecker full = Samples.grownTo(40);
        for (int call = 34; call < CALLS; call++) {
            due("call " + call + ": full", full.gate(call % 10, 0, 1, 2), FULL);
        }
        due("512th: wires of a full object", full.wires(), 40);
        SweepChecker bare = new SweepChecker();
        for (int call = 1; call < CALLS; call++) {
            due("call " + call + ": only the inputs", bare.drop(), BAD);
        }
        due("512th: wires of a new object", bare.wires(), 8);
    }

    private static void gatesAndDropsUpToTheLast() {
        SweepChecker s = new SweepChecker();
        for (int call = 1; call < CALLS; call += 2) {
            due("call " + call + ": gate", s.gate(call % 10, 0, 1, 2), 8);
            due("call " + (call + 1) + ": drop", s.drop(), 8);
        }
        SweepChecker waves = new SweepChecker();
        for (int wave = 0; wave < 8; wave++) {
            for (int w = 8; w < 40; w++) {
                due("wave " + wave + ": gate", waves.gate(wave, w - 1, w - 2, w - 3), w);
            }
            for (int left = 39; left >= 8; left--) {
                due("wave " + wave + ": drop", waves.drop(), left);
            }
        }
    }
}
