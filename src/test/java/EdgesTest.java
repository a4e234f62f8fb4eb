/** One method or more for each sentence of the document that names a boundary case. */
public final class EdgesTest {
    private static final int BAD = -1;
    private static final int FULL = -2;
    private static final int NONE = -3;
    private static final int FALSE = 0;
    private static final int TRUE = 1;
    private static final int LEAST = Integer.MIN_VALUE;
    private static final int GREATEST = Integer.MAX_VALUE;

    private static final int[] NO_KIND = {-1, 10, LEAST, GREATEST, 11, 16, 256, -10, LEAST + 7};
    private static final int[] NO_ASSIGNMENT =
            {-1, 256, LEAST, GREATEST, 257, 511, 512, -255, -256, 1 << 16, LEAST + 255};
    private static final int[] NO_INPUT =
            {-1, 8, LEAST, GREATEST, 9, 31, 32, 33, 39, 40, 64, -8, -32, LEAST + 7};

    private static final Checks CHECKS = new Checks();

    private interface Call {
        long of(SweepChecker s, int number);
    }

    private interface Due {
        long of(int number);
    }

    public static void main(String[] args) {
        termsAtMostFortyWires();
        termsAssignment();
        termsKinds();
        termsKindsOfTheSameWires();
        newObjectHasTheInputsOnly();
        gateKindEdges();
        gateWireEdges();
        gateThirdWireEdges();
        gateFullAtForty();
        gateBadComesBeforeFull();
        dropEdges();
        valueEdges();
        equalEdges();
        oppositeEdges();
        constantEdges();
        impliesEdges();
        countEdges();
        witnessEdges();
        differEdges();
        dependsEdges();
        firstEdges();
        groupsEdges();
        symmetricEdges();
        followsEdges();
        CHECKS.done();
    }

    private static void due(String call, long got, long want) {
        CHECKS.same(call, got, want);
    }

    private static long number(boolean answer) {
        return answer ? TRUE : FALSE;
    }

    /** The call is refused for every number that is no wire, whatever the number of wires. */
    private static void noWire(String name, long refusal, Call call) {
        for (int size = 8; size <= 40; size++) {
            for (int no : Samples.noWires(size)) {
                for (SweepChecker s : Samples.bothWays(size)) {
                    String where = name + ", a = " + no + ", " + size + " wires";
                    due(where, call.of(s, no), refusal);
                    due(where + ", then wires()", s.wires(), size);
                }
            }
        }
    }

    /** The call is answered for every wire from 0 to the last one, whatever their number. */
    private static void everyWire(String name, Due want, Call call) {
        for (int size = 8; size <= 40; size++) {
            for (int w = 0; w < size; w++) {
                String where = name + ", a = " + w + ", " + size + " wires";
                due(where, call.of(Samples.grownTo(size), w), want.of(w));
                due(where, call.of(Samples.droppedTo(size), w), want.of(w));
            }
        }
    }

    /** The call for a constant wire, at each place that a gate's wire can have. */
    private static void constants(String name, long forZero, long forOne, Call call) {
        for (int size = 10; size <= 40; size++) {
            SweepChecker s = Samples.withZeroAndOneLast(size);
            due(name + ", zero at " + (size - 2), call.of(s, size - 2), forZero);
            due(name + ", one at " + (size - 1), call.of(s, size - 1), forOne);
            SweepChecker turned = Samples.droppedTo(size - 2);
            turned.gate(6, 7, 7, 0);
            turned.gate(2, 7, 7, 0);
            due(name + ", one at " + (size - 2), call.of(turned, size - 2), forOne);
            due(name + ", zero at " + (size - 1), call.of(turned, size - 1), forZero);
        }
    }

    /** The call for a wire that is 1 for one assignment alone, and for one that is 0 there. */
    private static void singles(String name, Due forOnly, Due forAllBut, Call call) {
        for (int x = 0; x < 256; x++) {
            SweepChecker s = new SweepChecker();
            int only = Samples.only(s, x);
            int allBut = Samples.not(s, only);
            due(name + ", 1 for " + x + " alone", call.of(s, only), forOnly.of(x));
            due(name + ", 0 for " + x + " alone", call.of(s, allBut), forAllBut.of(x));
        }
    }

    // Terms: "There are at most 40 wires."
    private static void termsAtMostFortyWires() {
        SweepChecker s = new SweepChecker();
        for (int w = 8; w < 40; w++) {
            due("terms: wires()", s.wires(), w);
            due("terms: gate", s.gate(3, w - 1, w - 2, 0), w);
        }
        due("terms: 40 wires", s.wires(), 40);
        due("terms: the last wire is there", s.equal(39, 39) ? 1 : 0, 1);
        due("terms: no wire 40", s.first(40), BAD);
        due("terms: no gate more", s.gate(0, 0, 0, 0), FULL);
        due("terms: 40 wires still", s.wires(), 40);
    }

    // Terms: "An ASSIGNMENT is a number 0 .. 255; by it input i has bit i of the number."
    private static void termsAssignment() {
        for (int i = 0; i < 8; i++) {
            SweepChecker s = new SweepChecker();
            for (int x = 0; x < 256; x++) {
                int bit = x / (1 << i) % 2;
                due("terms: input " + i + " for " + x, s.value(i, x), bit);
            }
            for (int x : NO_ASSIGNMENT) {
                due("terms: " + x + " is no assignment", s.value(i, x), BAD);
            }
            due("terms: half of 256", s.count(i), 128);
        }
    }

    /** Sign n of a row, from the left, is due where a, b, c are the bits 0, 1, 2 of n. */
    private static final String[] TABLE = {"00010001", "01110111", "01100110", "11101110",
            "10001000", "10011001", "10111011", "00011011", "00010111", "01101001"};

    // Terms: the table of the kinds 0 to 9.
    private static void termsKinds() {
        int[][] places = {{0, 1, 2}, {2, 1, 0}, {5, 7, 6}, {7, 0, 3}};
        for (int kind = 0; kind <= 9; kind++) {
            for (int[] p : places) {
                SweepChecker s = new SweepChecker();
                due("terms: gate of kind " + kind, s.gate(kind, p[0], p[1], p[2]), 8);
                tableHolds(s, kind, p);
            }
        }
    }

    private static void termsKindsOfTheSameWires() {
        int[][] places = {{3, 3, 3}, {3, 3, 6}, {3, 6, 3}, {6, 3, 3}, {0, 0, 0}, {7, 7, 7}};
        for (int kind = 0; kind <= 9; kind++) {
            for (int[] p : places) {
                SweepChecker s = new SweepChecker();
                s.gate(kind, p[0], p[1], p[2]);
                tableHolds(s, kind, p);
            }
        }
    }

    private static void tableHolds(SweepChecker s, int kind, int[] p) {
        for (int x = 0; x < 256; x++) {
            int n = (x >> p[0]) % 2 + 2 * ((x >> p[1]) % 2) + 4 * ((x >> p[2]) % 2);
            String call = "terms: kind " + kind + " for assignment " + x;
            due(call, s.value(8, x), TABLE[kind].charAt(n) - '0');
        }
    }

    // Promise 1: "The inputs only."
    private static void newObjectHasTheInputsOnly() {
        due("1: wires()", new SweepChecker().wires(), 8);
        due("1: drop()", new SweepChecker().drop(), BAD);
        due("1: groups()", new SweepChecker().groups(), 8);
        due("1: the next number", new SweepChecker().gate(9, 0, 0, 0), 8);
        for (int i = 0; i < 8; i++) {
            due("1: depends(" + i + ")", new SweepChecker().depends(i), 1 << i);
            due("1: count(" + i + ")", new SweepChecker().count(i), 128);
        }
        for (int no : Samples.noWires(8)) {
            due("1: depends(" + no + ")", new SweepChecker().depends(no), BAD);
            due("1: count(" + no + ")", new SweepChecker().count(no), BAD);
        }
        SweepChecker used = Samples.grownTo(40);
        due("1: another object is used", used.wires(), 40);
        due("1: a new one has the inputs only", new SweepChecker().wires(), 8);
    }

    // Promise 2: "BAD when kind is not 0 .. 9"
    private static void gateKindEdges() {
        for (int size = 8; size <= 40; size++) {
            for (int kind : NO_KIND) {
                SweepChecker s = Samples.grownTo(size);
                due("2: kind " + kind + ", " + size + " wires", s.gate(kind, 0, 1, 2), BAD);
                due("2: no wire is made", s.wires(), size);
            }
            for (int kind = 0; kind <= 9; kind++) {
                SweepChecker s = Samples.grownTo(size);
                int want = size < 40 ? size : FULL;
                due("2: kind " + kind + ", " + size + " wires", s.gate(kind, 0, 1, 2), want);
                due("2: wires() after it", s.wires(), size < 40 ? size + 1 : 40);
            }
        }
    }

    // Promise 2: "BAD when .. a, b .. is no wire"
    private static void gateWireEdges() {
        for (int kind = 0; kind <= 9; kind++) {
            int k = kind;
            noWire("2: gate(" + k + ", a, 0, 0)", BAD, (s, a) -> s.gate(k, a, 0, 0));
            noWire("2: gate(" + k + ", 0, a, 0)", BAD, (s, a) -> s.gate(k, 0, a, 0));
            noWire("2: gate(" + k + ", a, a, 0)", BAD, (s, a) -> s.gate(k, a, a, 0));
            noWire("2: gate(" + k + ", a, a, a)", BAD, (s, a) -> s.gate(k, a, a, a));
            for (int size = 8; size < 40; size++) {
                int last = size - 1;
                due("2: the last wire as a", Samples.droppedTo(size).gate(k, last, 0, 0), size);
                due("2: the last wire as b", Samples.droppedTo(size).gate(k, 0, last, 0), size);
                due("2: the last wire as c", Samples.droppedTo(size).gate(k, 0, 0, last), size);
            }
        }
    }

    // Promise 2: "or (for kinds 7 to 9) c is no wire"
    private static void gateThirdWireEdges() {
        for (int kind = 7; kind <= 9; kind++) {
            int k = kind;
            noWire("2: gate(" + k + ", 0, 1, a)", BAD, (s, a) -> s.gate(k, 0, 1, a));
        }
        for (int size = 8; size <= 40; size++) {
            for (int kind = 0; kind <= 6; kind++) {
                for (int no : Samples.noWires(size)) {
                    SweepChecker s = Samples.droppedTo(size);
                    String call = "2: gate(" + kind + ", 0, 1, " + no + "), " + size + " wires";
                    due(call, s.gate(kind, 0, 1, no), size < 40 ? size : FULL);
                    anyThirdWireIsTheSame(call, s, kind, size);
                }
            }
        }
    }

    private static void anyThirdWireIsTheSame(String call, SweepChecker s, int kind, int wire) {
        if (wire < 40) {
            for (int x = 0; x < 4; x++) {
                due(call + " for " + x, s.value(wire, x), TABLE[kind].charAt(x) - '0');
            }
        }
    }

    // Promise 2: "FULL when there are 40."
    private static void gateFullAtForty() {
        for (int kind = 0; kind <= 9; kind++) {
            SweepChecker s = Samples.grownTo(39);
            due("2: one place is left", s.gate(kind, 38, 0, 7), 39);
            due("2: none is left", s.gate(kind, 0, 1, 2), FULL);
            due("2: none is left", s.gate(kind, 39, 39, 39), FULL);
            due("2: none is made", s.wires(), 40);
            due("2: one is taken away", s.drop(), 39);
            due("2: a place is left again", s.gate(kind, 0, 1, 2), 39);
            due("2: none is left again", s.gate(kind, 0, 1, 2), FULL);
        }
    }

    // Promise 2: "Tested in this order"
    private static void gateBadComesBeforeFull() {
        for (int kind : NO_KIND) {
            due("2: full, kind " + kind, Samples.grownTo(40).gate(kind, 39, 39, 39), BAD);
        }
        for (int no : Samples.noWires(40)) {
            for (int kind = 0; kind <= 9; kind++) {
                String full = "2: full, kind " + kind + ", no wire " + no;
                due(full + " as a", Samples.grownTo(40).gate(kind, no, 39, 39), BAD);
                due(full + " as b", Samples.grownTo(40).gate(kind, 39, no, 39), BAD);
                int want = kind < 7 ? FULL : BAD;
                due(full + " as c", Samples.grownTo(40).gate(kind, 39, 39, no), want);
            }
        }
    }

    // Promise 3: "BAD when only the inputs are there."
    private static void dropEdges() {
        for (int size = 8; size <= 40; size++) {
            for (SweepChecker s : Samples.bothWays(size)) {
                for (int left = size - 1; left >= 8; left--) {
                    due("3: drop() with " + (left + 1), s.drop(), left);
                    due("3: wires() after it", s.wires(), left);
                }
                due("3: only the inputs", s.drop(), BAD);
                due("3: they stay", s.wires(), 8);
                due("3: only the inputs still", s.drop(), BAD);
                due("3: input 7 stays", s.witness(7), 128);
                due("3: the next number", s.gate(0, 0, 1, 0), 8);
                due("3: that one can go", s.drop(), 8);
            }
        }
    }

    // Promise 5: "BAD when there is no wire a or x is not 0 .. 255."
    private static void valueEdges() {
        for (int x : new int[] {0, 1, 63, 64, 127, 128, 191, 192, 254, 255}) {
            noWire("5: value(a, " + x + ")", BAD, (s, a) -> s.value(a, x));
            everyWire("5: value(a, " + x + ")", a -> Samples.value(a, x), (s, a) -> s.value(a, x));
        }
        for (int x : NO_ASSIGNMENT) {
            noWire("5: value(a, " + x + ")", BAD, (s, a) -> s.value(a, x));
            everyWire("5: value(a, " + x + ")", a -> BAD, (s, a) -> s.value(a, x));
            constants("5: value(a, " + x + ")", BAD, BAD, (s, a) -> s.value(a, x));
        }
    }

    // Promise 6: "false when one is not there."
    private static void equalEdges() {
        noWire("6: equal(a, a)", FALSE, (s, a) -> number(s.equal(a, a)));
        for (int p = 0; p < 40; p++) {
            int other = p;
            noWire("6: equal(a, " + p + ")", FALSE, (s, a) -> number(s.equal(a, other)));
            noWire("6: equal(" + p + ", a)", FALSE, (s, a) -> number(s.equal(other, a)));
        }
        everyWire("6: equal(a, a)", a -> TRUE, (s, a) -> number(s.equal(a, a)));
        everyWire("6: equal(a, a % 16)", a -> TRUE, (s, a) -> number(s.equal(a, a % 16)));
        everyWire("6: equal(a % 16, a)", a -> TRUE, (s, a) -> number(s.equal(a % 16, a)));
        Call isZero = (s, a) -> number(s.equal(a, s.gate(2, 0, 0, 0)));
        Call isOne = (s, a) -> number(s.equal(s.gate(5, 0, 0, 0), a));
        singles("6: equal to zero", x -> FALSE, x -> FALSE, isZero);
        singles("6: equal to one", x -> FALSE, x -> FALSE, isOne);
    }

    // Promise 7: "false when one is not there."
    private static void oppositeEdges() {
        noWire("7: opposite(a, a)", FALSE, (s, a) -> number(s.opposite(a, a)));
        for (int p = 0; p < 40; p++) {
            int other = p;
            noWire("7: opposite(a, " + p + ")", FALSE, (s, a) -> number(s.opposite(a, other)));
            noWire("7: opposite(" + p + ", a)", FALSE, (s, a) -> number(s.opposite(other, a)));
        }
        everyWire("7: opposite(a, a)", a -> FALSE, (s, a) -> number(s.opposite(a, a)));
        Due isGate = a -> number(a >= 8);
        everyWire("7: opposite(a, a - 8)", isGate, (s, a) -> number(s.opposite(a, a - 8)));
        everyWire("7: opposite(a - 8, a)", isGate, (s, a) -> number(s.opposite(a - 8, a)));
        Call ofZero = (s, a) -> number(s.opposite(a, s.gate(2, 0, 0, 0)));
        Call ofOne = (s, a) -> number(s.opposite(s.gate(5, 0, 0, 0), a));
        singles("7: opposite of zero", x -> FALSE, x -> FALSE, ofZero);
        singles("7: opposite of one", x -> FALSE, x -> FALSE, ofOne);
        singles("7: opposite of its not", x -> TRUE, x -> TRUE,
                (s, a) -> number(s.opposite(a, Samples.not(s, a))));
    }

    // Promise 8: "NONE when it has both; BAD when there is no wire a."
    private static void constantEdges() {
        noWire("8: constant(a)", BAD, (s, a) -> s.constant(a));
        everyWire("8: constant(a)", a -> NONE, (s, a) -> s.constant(a));
        constants("8: constant(a)", 0, 1, (s, a) -> s.constant(a));
        singles("8: constant(a)", x -> NONE, x -> NONE, (s, a) -> s.constant(a));
    }

    // Promise 9: "false when one is not there."
    private static void impliesEdges() {
        noWire("9: implies(a, a)", FALSE, (s, a) -> number(s.implies(a, a)));
        for (int p = 0; p < 40; p++) {
            int other = p;
            noWire("9: implies(a, " + p + ")", FALSE, (s, a) -> number(s.implies(a, other)));
            noWire("9: implies(" + p + ", a)", FALSE, (s, a) -> number(s.implies(other, a)));
        }
        for (int size = 10; size <= 40; size++) {
            for (int no : Samples.noWires(size)) {
                SweepChecker s = Samples.withZeroAndOneLast(size);
                due("9: implies(zero, " + no + ")", number(s.implies(size - 2, no)), FALSE);
                due("9: implies(" + no + ", one)", number(s.implies(no, size - 1)), FALSE);
            }
        }
        everyWire("9: implies(a, a)", a -> TRUE, (s, a) -> number(s.implies(a, a)));
        everyWire("9: implies(a, a % 16)", a -> TRUE, (s, a) -> number(s.implies(a, a % 16)));
        everyWire("9: implies(a % 16, a)", a -> TRUE, (s, a) -> number(s.implies(a % 16, a)));
        constants("9: implies(a, 0)", TRUE, FALSE, (s, a) -> number(s.implies(a, 0)));
        constants("9: implies(0, a)", FALSE, TRUE, (s, a) -> number(s.implies(0, a)));
        Call impliesZero = (s, a) -> number(s.implies(a, s.gate(2, 0, 0, 0)));
        Call ofOne = (s, a) -> number(s.implies(s.gate(5, 0, 0, 0), a));
        singles("9: implies zero", x -> FALSE, x -> FALSE, impliesZero);
        singles("9: implied by one", x -> FALSE, x -> FALSE, ofOne);
    }

    // Promise 10: "BAD when there is no wire a."
    private static void countEdges() {
        noWire("10: count(a)", BAD, (s, a) -> s.count(a));
        everyWire("10: count(a)", a -> 128, (s, a) -> s.count(a));
        constants("10: count(a)", 0, 256, (s, a) -> s.count(a));
        singles("10: count(a)", x -> 1, x -> 255, (s, a) -> s.count(a));
    }

    // Promise 11: "NONE when there is none; BAD when there is no wire a."
    private static void witnessEdges() {
        noWire("11: witness(a)", BAD, (s, a) -> s.witness(a));
        Due least = a -> Samples.turned(a) == 1 ? 0 : 1 << a % 8;
        everyWire("11: witness(a)", least, (s, a) -> s.witness(a));
        constants("11: witness(a)", NONE, 0, (s, a) -> s.witness(a));
        singles("11: witness(a)", x -> x, x -> x == 0 ? 1 : 0, (s, a) -> s.witness(a));
    }

    // Promise 12: "NONE when there is none; BAD when one is not there."
    private static void differEdges() {
        noWire("12: differ(a, a)", BAD, (s, a) -> s.differ(a, a));
        for (int p = 0; p < 40; p++) {
            int other = p;
            noWire("12: differ(a, " + p + ")", BAD, (s, a) -> s.differ(a, other));
            noWire("12: differ(" + p + ", a)", BAD, (s, a) -> s.differ(other, a));
        }
        everyWire("12: differ(a, a)", a -> NONE, (s, a) -> s.differ(a, a));
        everyWire("12: differ(a, a % 16)", a -> NONE, (s, a) -> s.differ(a, a % 16));
        everyWire("12: differ(a % 16, a)", a -> NONE, (s, a) -> s.differ(a % 16, a));
        everyWire("12: differ(a, a - 8)", a -> a < 8 ? BAD : 0, (s, a) -> s.differ(a, a - 8));
        Call fromZero = (s, a) -> s.differ(a, s.gate(2, 0, 0, 0));
        Call fromOne = (s, a) -> s.differ(s.gate(5, 0, 0, 0), a);
        singles("12: differ from zero", x -> x, x -> x == 0 ? 1 : 0, fromZero);
        singles("12: differ from one", x -> x == 0 ? 1 : 0, x -> x, fromOne);
    }

    // Promise 13: "BAD when there is no wire a."
    private static void dependsEdges() {
        noWire("13: depends(a)", BAD, (s, a) -> s.depends(a));
        everyWire("13: depends(a)", a -> 1 << a % 8, (s, a) -> s.depends(a));
        constants("13: depends(a)", 0, 0, (s, a) -> s.depends(a));
        singles("13: depends(a)", x -> 255, x -> 255, (s, a) -> s.depends(a));
        for (int i = 0; i < 8; i++) {
            SweepChecker s = new SweepChecker();
            int pair = s.gate(1, Samples.only(s, 255), Samples.only(s, 255 - (1 << i)), 0);
            due("13: all but input " + i, s.depends(pair), 255 - (1 << i));
        }
    }

    // Promise 14: "BAD when there is no wire a."
    private static void firstEdges() {
        noWire("14: first(a)", BAD, (s, a) -> s.first(a));
        everyWire("14: first(a)", a -> a % 16, (s, a) -> s.first(a));
        SweepChecker s = Samples.withZeroAndOneLast(39);
        due("14: the last one is the least", s.first(38), 38);
        due("14: one more of them", s.gate(0, 38, 38, 0), 39);
        due("14: the last but one is the least", s.first(39), 38);
        for (int x = 0; x < 256; x++) {
            SweepChecker near = new SweepChecker();
            int zero = near.gate(2, 0, 0, 0);
            int only = Samples.only(near, x);
            int again = near.gate(2, zero, only, 0);
            due("14: " + x + " alone tells it apart", near.first(only), only);
            due("14: the same again", near.first(again), only);
            due("14: zero", near.first(zero), zero);
        }
    }

    // Promise 15 has no refusal; its edges are the fewest and the most groups.
    private static void groupsEdges() {
        for (int size = 8; size <= 40; size++) {
            for (SweepChecker s : Samples.bothWays(size)) {
                due("15: groups(), " + size + " wires", s.groups(), Math.min(size, 16));
            }
        }
        SweepChecker alike = new SweepChecker();
        SweepChecker unlike = new SweepChecker();
        for (int w = 8; w < 40; w++) {
            alike.gate(1, w - 1, w - 1, 0);
            due("15: every gate is like input 7", alike.groups(), 8);
            unlikeGate(unlike, w - 8);
            due("15: no two wires are alike", unlike.groups(), w + 1);
        }
        for (int left = 39; left >= 8; left--) {
            unlike.drop();
            due("15: a wire taken away is in no group", unlike.groups(), left);
        }
        for (int x = 0; x < 256; x++) {
            SweepChecker s = new SweepChecker();
            int allBut = Samples.not(s, Samples.only(s, x));
            int before = s.groups();
            s.gate(2, 0, 0, 0);
            due("15: " + x + " alone makes a group beside zero", s.groups(), before + 1);
            s.gate(5, 0, 0, 0);
            due("15: " + x + " alone makes a group beside one", s.groups(), before + 2);
            s.gate(1, allBut, allBut, 0);
            due("15: no new group", s.groups(), before + 2);
        }
    }

    /** Gate n of 32 that are unlike each other: 28 joints of two inputs, then four opposites. */
    private static void unlikeGate(SweepChecker s, int n) {
        int pair = 0;
        for (int i = 0; i < 8; i++) {
            for (int j = 0; j < i; j++) {
                if (pair == n) {
                    s.gate(0, i, j, 0);
                }
                pair++;
            }
        }
        if (n >= pair) {
            s.gate(4, n - pair, n - pair, 0);
        }
    }

    // Promise 16: "false when there is no wire a or i or j is not 0 .. 7."
    private static void symmetricEdges() {
        for (int n = 0; n < 8; n++) {
            int i = n;
            noWire("16: symmetric(a, " + i + ", 7)", FALSE, (s, a) -> number(s.symmetric(a, i, 7)));
            noWire("16: symmetric(a, 0, " + i + ")", FALSE, (s, a) -> number(s.symmetric(a, 0, i)));
            for (int m = 0; m < 8; m++) {
                int j = m;
                String call = "16: symmetric(a, " + i + ", " + j + ")";
                Due want = a -> number(i == j || a % 8 != i && a % 8 != j);
                everyWire(call, want, (s, a) -> number(s.symmetric(a, i, j)));
                Due sameBits = x -> number((x >> i) % 2 == (x >> j) % 2);
                singles(call, sameBits, sameBits, (s, a) -> number(s.symmetric(a, i, j)));
                constants(call, TRUE, TRUE, (s, a) -> number(s.symmetric(a, i, j)));
            }
        }
        for (int no : NO_INPUT) {
            for (int n = 0; n < 8; n++) {
                int i = n;
                Call asI = (s, a) -> number(s.symmetric(a, no, i));
                Call asJ = (s, a) -> number(s.symmetric(a, i, no));
                constants("16: symmetric(a, " + no + ", " + i + ")", FALSE, FALSE, asI);
                constants("16: symmetric(a, " + i + ", " + no + ")", FALSE, FALSE, asJ);
            }
            Call asBoth = (s, a) -> number(s.symmetric(a, no, no));
            constants("16: symmetric(a, " + no + ", " + no + ")", FALSE, FALSE, asBoth);
            everyWire("16: symmetric(a, " + no + ", " + no + ")", a -> FALSE, asBoth);
        }
    }

    // Promise 17: "BAD when there is no wire a or i is not 0 .. 7."
    private static void followsEdges() {
        for (int n = 0; n < 8; n++) {
            int i = n;
            String call = "17: follows(a, " + i + ")";
            noWire(call, BAD, (s, a) -> s.follows(a, i));
            Due want = a -> a % 8 != i ? 0 : Samples.turned(a) == 1 ? 2 : 1;
            everyWire(call, want, (s, a) -> s.follows(a, i));
            constants(call, 0, 0, (s, a) -> s.follows(a, i));
            Due rises = x -> (x >> i) % 2 == 1 ? 1 : 2;
            singles(call, rises, x -> 3 - rises.of(x), (s, a) -> s.follows(a, i));
        }
        for (int no : NO_INPUT) {
            everyWire("17: follows(a, " + no + ")", a -> BAD, (s, a) -> s.follows(a, no));
            constants("17: follows(a, " + no + ")", BAD, BAD, (s, a) -> s.follows(a, no));
            noWire("17: follows(a, " + no + ")", BAD, (s, a) -> s.follows(a, no));
        }
        for (int i = 0; i < 8; i++) {
            SweepChecker s = new SweepChecker();
            int both = s.gate(1, Samples.only(s, 255), Samples.only(s, 0), 0);
            due("17: one rise and one fall by " + i, s.follows(both, i), 3);
            SweepChecker u = new SweepChecker();
            int other = u.gate(1, Samples.only(u, 1 << i), Samples.only(u, 255 - (1 << i)), 0);
            due("17: the rise before the fall by " + i, u.follows(other, i), 3);
            SweepChecker t = new SweepChecker();
            int level = t.gate(1, Samples.only(t, 255), Samples.only(t, 255 - (1 << i)), 0);
            due("17: 1 before and after input " + i, t.follows(level, i), 0);
        }
    }
}
