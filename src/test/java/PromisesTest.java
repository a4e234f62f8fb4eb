/** One method a promise, with answers worked out by hand from the document. */
public final class PromisesTest {
    private static final int BAD = -1;
    private static final int FULL = -2;
    private static final int NONE = -3;
    private static final int[] NO_WIRE_OF_A_NEW_OBJECT =
            {-1, 8, 39, 40, 41, 1 << 29, 1 << 30, Integer.MIN_VALUE, Integer.MAX_VALUE};
    private static final int[] NO_INPUT = {-1, 8, 31, 32, 33, Integer.MIN_VALUE, Integer.MAX_VALUE};

    private static final Checks CHECKS = new Checks();

    public static void main(String[] args) {
        newObject();
        gateTables();
        gateRefusals();
        gateWhenFull();
        drop();
        wires();
        value();
        equal();
        opposite();
        constant();
        implies();
        count();
        witness();
        differ();
        depends();
        first();
        groups();
        symmetric();
        follows();
        CHECKS.done();
    }

    private static void due(String call, long got, long want) {
        CHECKS.same(call, got, want);
    }

    private static void due(String call, boolean got, boolean want) {
        CHECKS.same(call, got, want);
    }

    private static SweepChecker full() {
        SweepChecker s = new SweepChecker();
        for (int w = 8; w < 40; w++) {
            s.gate(2, w - 8, w - 7, 0);
        }
        return s;
    }

    private static SweepChecker fullWithZeroAndOneLast() {
        SweepChecker s = full();
        s.drop();
        s.drop();
        s.gate(2, 0, 0, 0);
        s.gate(5, 0, 0, 0);
        return s;
    }

    /** A wire that is 1 for assignment 255 alone; the wires before it join fewer inputs. */
    private static int allOf(SweepChecker s) {
        int wire = 0;
        for (int i = 1; i < 8; i++) {
            wire = s.gate(0, wire, i, 0);
        }
        return wire;
    }

    /** A wire that is 1 for assignment 0 alone. */
    private static int noneOf(SweepChecker s) {
        int wire = 0;
        for (int i = 1; i < 7; i++) {
            wire = s.gate(1, wire, i, 0);
        }
        return s.gate(4, wire, 7, 0);
    }

    // Promise 1
    private static void newObject() {
        SweepChecker s = new SweepChecker();
        due("1: wires of a new object", s.wires(), 8);
        due("1: drop of a new object", s.drop(), BAD);
        due("1: groups of a new object", s.groups(), 8);
        SweepChecker other = new SweepChecker();
        other.gate(0, 0, 1, 0);
        due("1: objects share nothing", s.wires(), 8);
        due("1: BAD", SweepChecker.BAD, BAD);
        due("1: FULL", SweepChecker.FULL, FULL);
        due("1: NONE", SweepChecker.NONE, NONE);
        for (int i = 0; i < 8; i++) {
            SweepChecker fresh = new SweepChecker();
            for (int x = 0; x < 256; x++) {
                due("1: value(" + i + ", " + x + ")", fresh.value(i, x), (x / (1 << i)) % 2);
            }
        }
    }

    // Promise 2: sign n of a row, from the left, is due where a, b, c are the bits 0, 1, 2 of n.
    private static void gateTables() {
        String[] rows = {"00010001", "01110111", "01100110", "11101110", "10001000",
                "10011001", "10111011", "00011011", "00010111", "01101001"};
        int[][] places = {{0, 1, 2}, {5, 6, 7}, {7, 0, 4}, {3, 6, 1}};
        for (int kind = 0; kind <= 9; kind++) {
            for (int[] p : places) {
                SweepChecker s = new SweepChecker();
                int wire = s.gate(kind, p[0], p[1], p[2]);
                due("2: gate of kind " + kind, wire, 8);
                for (int x = 0; x < 256; x++) {
                    int n = ((x >> p[0]) & 1) + 2 * ((x >> p[1]) & 1) + 4 * ((x >> p[2]) & 1);
                    String call = "2: kind " + kind + " for assignment " + x;
                    due(call, s.value(wire, x), rows[kind].charAt(n) - '0');
                }
            }
        }
    }

    private static void gateRefusals() {
        for (int kind : new int[] {-1, 10, 11, 32, Integer.MIN_VALUE, Integer.MAX_VALUE}) {
            due("2: gate(" + kind + ", ..)", new SweepChecker().gate(kind, 0, 1, 2), BAD);
        }
        for (int kind = 0; kind <= 9; kind++) {
            for (int no : NO_WIRE_OF_A_NEW_OBJECT) {
                SweepChecker s = new SweepChecker();
                String call = "2: kind " + kind + ", no wire " + no;
                due(call + " as a", s.gate(kind, no, 1, 2), BAD);
                due(call + " as b", s.gate(kind, 0, no, 2), BAD);
                due(call + " as both", s.gate(kind, no, no, 2), BAD);
                due(call + ": a refusal makes no wire", s.wires(), 8);
                due(call + " as c", s.gate(kind, 0, 1, no), kind >= 7 ? BAD : 8);
                due(call + ": c counts for 7 to 9 only", s.wires(), kind >= 7 ? 8 : 9);
            }
        }
        SweepChecker s = new SweepChecker();
        due("2: a gate may not use itself", s.gate(0, 8, 0, 0), BAD);
        due("2: first wire", s.gate(0, 0, 0, 0), 8);
        due("2: it may be used then", s.gate(9, 8, 8, 8), 9);
        s.drop();
        due("2: a dropped wire is no wire", s.gate(0, 9, 0, 0), BAD);
        due("2: a dropped number comes again", s.gate(4, 8, 8, 0), 9);
        due("2: with the values of the new gate", s.value(9, 0), 1);
    }

    private static void gateWhenFull() {
        SweepChecker s = full();
        due("2: 40 wires fit", s.wires(), 40);
        due("2: FULL", s.gate(0, 0, 1, 0), FULL);
        due("2: FULL for kind 9", s.gate(9, 39, 39, 39), FULL);
        due("2: FULL makes no wire", s.wires(), 40);
        due("2: FULL with any c", s.gate(0, 0, 1, 99), FULL);
        due("2: kind before FULL", s.gate(10, 0, 1, 0), BAD);
        due("2: a before FULL", s.gate(0, 40, 1, 0), BAD);
        due("2: b before FULL", s.gate(0, 0, -1, 0), BAD);
        due("2: c before FULL", s.gate(8, 0, 1, 40), BAD);
        s.drop();
        due("2: room again", s.gate(0, 38, 38, 0), 39);
        due("2: FULL again", s.gate(0, 38, 38, 0), FULL);
    }

    // Promise 3
    private static void drop() {
        SweepChecker s = full();
        for (int left = 39; left >= 8; left--) {
            due("3: drop", s.drop(), left);
            due("3: the wire is gone", s.value(left, 0), BAD);
            due("3: the one before stays", s.value(left - 1, 0), 0);
        }
        due("3: only inputs", s.drop(), BAD);
        due("3: only inputs still", s.drop(), BAD);
        due("3: the inputs stay", s.wires(), 8);
        due("3: and their values", s.count(7), 128);
    }

    // Promise 4
    private static void wires() {
        SweepChecker s = new SweepChecker();
        for (int w = 8; w < 40; w++) {
            due("4: wires", s.wires(), w);
            s.gate(w % 10, w - 1, w - 2, w - 3);
        }
        due("4: wires when full", s.wires(), 40);
        s.drop();
        due("4: wires after drop", s.wires(), 39);
    }

    // Promise 5
    private static void value() {
        SweepChecker s = new SweepChecker();
        int all = allOf(s);
        due("5: all ones", s.value(all, 255), 1);
        due("5: all but one", s.value(all, 254), 0);
        due("5: assignment 0", s.value(all, 0), 0);
        for (int x : new int[] {-1, 256, 257, 511, -256, Integer.MIN_VALUE, Integer.MAX_VALUE}) {
            due("5: value(0, " + x + ")", s.value(0, x), BAD);
            due("5: value(" + all + ", " + x + ")", s.value(all, x), BAD);
        }
        for (int no : NO_WIRE_OF_A_NEW_OBJECT) {
            due("5: value(" + no + ", 0)", new SweepChecker().value(no, 0), BAD);
        }
        due("5: both wrong", s.value(-1, 256), BAD);
    }

    // Promise 6
    private static void equal() {
        SweepChecker s = new SweepChecker();
        int and = s.gate(0, 3, 6, 0);
        int turned = s.gate(0, 6, 3, 0);
        int not = s.gate(3, 3, 6, 0);
        int notNot = s.gate(3, not, not, 0);
        due("6: turned", s.equal(and, turned), true);
        due("6: not not", s.equal(notNot, and), true);
        due("6: itself", s.equal(not, not), true);
        due("6: opposite is not equal", s.equal(and, not), false);
        due("6: inputs", s.equal(0, 7), false);
        int all = allOf(s);
        int zero = s.gate(2, 0, 0, 0);
        int none = noneOf(s);
        due("6: only assignment 255 tells them apart", s.equal(all, zero), false);
        due("6: only assignment 0 tells them apart", s.equal(none, zero), false);
        for (int no : NO_WIRE_OF_A_NEW_OBJECT) {
            SweepChecker fresh = new SweepChecker();
            due("6: equal(0, " + no + ")", fresh.equal(0, no), false);
            due("6: equal(" + no + ", 0)", fresh.equal(no, 0), false);
            due("6: equal(" + no + ", " + no + ")", fresh.equal(no, no), false);
        }
        SweepChecker dropped = new SweepChecker();
        dropped.gate(0, 0, 0, 0);
        due("6: before drop", dropped.equal(8, 0), true);
        dropped.drop();
        due("6: after drop", dropped.equal(8, 0), false);
    }

    // Promise 7
    private static void opposite() {
        SweepChecker s = new SweepChecker();
        int xor = s.gate(2, 0, 7, 0);
        int same = s.gate(5, 0, 7, 0);
        int zero = s.gate(2, 1, 1, 0);
        int one = s.gate(5, 1, 1, 0);
        int all = allOf(s);
        due("7: xor and its opposite", s.opposite(xor, same), true);
        due("7: the other way round", s.opposite(same, xor), true);
        due("7: the constants", s.opposite(zero, one), true);
        due("7: itself", s.opposite(xor, xor), false);
        due("7: different only", s.opposite(0, 7), false);
        int none = noneOf(s);
        due("7: the same for assignment 255 alone", s.opposite(all, one), false);
        due("7: they differ for assignment 255 alone", s.opposite(all, zero), false);
        due("7: the same for assignment 0 alone", s.opposite(none, one), false);
        for (int no : NO_WIRE_OF_A_NEW_OBJECT) {
            SweepChecker fresh = new SweepChecker();
            due("7: opposite(0, " + no + ")", fresh.opposite(0, no), false);
            due("7: opposite(" + no + ", 0)", fresh.opposite(no, 0), false);
            due("7: opposite(" + no + ", " + no + ")", fresh.opposite(no, no), false);
        }
        SweepChecker dropped = new SweepChecker();
        dropped.gate(4, 0, 0, 0);
        due("7: before drop", dropped.opposite(8, 0), true);
        dropped.drop();
        due("7: after drop", dropped.opposite(8, 0), false);
    }

    // Promise 8
    private static void constant() {
        SweepChecker s = new SweepChecker();
        int zero = s.gate(2, 4, 4, 0);
        int one = s.gate(6, 4, 4, 0);
        int all = allOf(s);
        int notAll = s.gate(3, all, all, 0);
        due("8: zero", s.constant(zero), 0);
        due("8: one", s.constant(one), 1);
        due("8: an input", s.constant(7), NONE);
        due("8: 1 once", s.constant(all), NONE);
        due("8: 0 once", s.constant(notAll), NONE);
        for (int no : NO_WIRE_OF_A_NEW_OBJECT) {
            due("8: constant(" + no + ")", new SweepChecker().constant(no), BAD);
        }
    }

    // Promise 9
    private static void implies() {
        SweepChecker s = new SweepChecker();
        int and = s.gate(0, 0, 7, 0);
        int or = s.gate(1, 0, 7, 0);
        int zero = s.gate(2, 4, 4, 0);
        int one = s.gate(5, 4, 4, 0);
        int all = allOf(s);
        due("9: and, input", s.implies(and, 7), true);
        due("9: input, and", s.implies(7, and), false);
        due("9: input, or", s.implies(0, or), true);
        due("9: or, input", s.implies(or, 0), false);
        due("9: itself", s.implies(or, or), true);
        due("9: zero implies all", s.implies(zero, one), true);
        due("9: zero implies zero", s.implies(zero, zero), true);
        due("9: one implies not zero", s.implies(one, zero), false);
        due("9: one, input", s.implies(one, 0), false);
        due("9: input, one", s.implies(0, one), true);
        due("9: fails at assignment 255 alone", s.implies(all, zero), false);
        due("9: fails at assignment 0 alone", s.implies(noneOf(s), zero), false);
        for (int no : NO_WIRE_OF_A_NEW_OBJECT) {
            SweepChecker fresh = new SweepChecker();
            due("9: implies(0, " + no + ")", fresh.implies(0, no), false);
            due("9: implies(" + no + ", 0)", fresh.implies(no, 0), false);
            due("9: implies(" + no + ", " + no + ")", fresh.implies(no, no), false);
        }
    }

    // Promise 10
    private static void count() {
        SweepChecker s = new SweepChecker();
        int wire = 0;
        for (int i = 1; i < 8; i++) {
            wire = s.gate(0, wire, i, 0);
            due("10: and of " + (i + 1), s.count(wire), 256 >> (i + 1));
        }
        due("10: nand of all", s.count(s.gate(3, wire, wire, 0)), 255);
        due("10: zero", s.count(s.gate(2, 0, 0, 0)), 0);
        due("10: one", s.count(s.gate(5, 0, 0, 0)), 256);
        due("10: two of three", s.count(s.gate(8, 0, 3, 7)), 128);
        due("10: or", s.count(s.gate(1, 6, 7, 0)), 192);
        for (int i = 0; i < 8; i++) {
            due("10: input " + i, s.count(i), 128);
        }
        for (int no : NO_WIRE_OF_A_NEW_OBJECT) {
            due("10: count(" + no + ")", new SweepChecker().count(no), BAD);
        }
    }

    // Promise 11
    private static void witness() {
        SweepChecker s = new SweepChecker();
        for (int i = 0; i < 8; i++) {
            due("11: input " + i, s.witness(i), 1 << i);
        }
        int all = allOf(s);
        due("11: all", s.witness(all), 255);
        due("11: all but input 7", s.witness(all - 1), 127);
        due("11: the inputs 0 to 5", s.witness(all - 2), 63);
        due("11: neither", s.witness(s.gate(4, 0, 7, 0)), 0);
        due("11: both", s.witness(s.gate(0, 5, 7, 0)), 160);
        due("11: zero", s.witness(s.gate(2, 0, 0, 0)), NONE);
        due("11: one", s.witness(s.gate(5, 0, 0, 0)), 0);
        SweepChecker last = fullWithZeroAndOneLast();
        due("11: zero beside one", last.witness(38), NONE);
        last.drop();
        last.gate(2, 0, 0, 0);
        due("11: zero as the last wire", last.witness(39), NONE);
        for (int no : NO_WIRE_OF_A_NEW_OBJECT) {
            due("11: witness(" + no + ")", new SweepChecker().witness(no), BAD);
        }
    }

    // Promise 12
    private static void differ() {
        SweepChecker s = new SweepChecker();
        int all = allOf(s);
        int zero = s.gate(2, 0, 0, 0);
        int one = s.gate(5, 0, 0, 0);
        due("12: at 255 alone", s.differ(all, zero), 255);
        due("12: the other way round", s.differ(zero, all), 255);
        due("12: at 0 already", s.differ(zero, one), 0);
        due("12: inputs 6 and 7", s.differ(6, 7), 64);
        due("12: inputs 7 and 2", s.differ(7, 2), 4);
        due("12: itself", s.differ(all, all), NONE);
        due("12: equal wires", s.differ(s.gate(0, 3, 3, 0), 3), NONE);
        SweepChecker last = fullWithZeroAndOneLast();
        due("12: the last two", last.differ(38, 39), 0);
        last.drop();
        last.gate(2, 0, 0, 0);
        due("12: the last two, equal", last.differ(39, 38), NONE);
        for (int no : NO_WIRE_OF_A_NEW_OBJECT) {
            SweepChecker fresh = new SweepChecker();
            due("12: differ(0, " + no + ")", fresh.differ(0, no), BAD);
            due("12: differ(" + no + ", 0)", fresh.differ(no, 0), BAD);
            due("12: differ(" + no + ", " + no + ")", fresh.differ(no, no), BAD);
        }
    }

    // Promise 13
    private static void depends() {
        SweepChecker s = new SweepChecker();
        for (int i = 0; i < 8; i++) {
            due("13: input " + i, s.depends(i), 1 << i);
        }
        int all = allOf(s);
        due("13: all", s.depends(all), 255);
        due("13: none", s.depends(noneOf(s)), 255);
        due("13: two", s.depends(s.gate(6, 2, 7, 0)), 132);
        due("13: three", s.depends(s.gate(7, 0, 4, 5)), 49);
        due("13: a choice of the same", s.depends(s.gate(7, 0, 4, 4)), 16);
        due("13: constant", s.depends(s.gate(2, all, all, 0)), 0);
        int xor = s.gate(2, 1, 6, 0);
        due("13: an input that falls out", s.depends(s.gate(2, xor, 6, 0)), 2);
        for (int no : NO_WIRE_OF_A_NEW_OBJECT) {
            due("13: depends(" + no + ")", new SweepChecker().depends(no), BAD);
        }
    }

    // Promise 14
    private static void first() {
        SweepChecker s = new SweepChecker();
        s.gate(0, 0, 1, 0);
        s.gate(0, 1, 0, 0);
        s.gate(0, 8, 9, 0);
        s.gate(1, 5, 5, 0);
        s.gate(3, 0, 1, 0);
        for (int i = 0; i < 8; i++) {
            due("14: input " + i, s.first(i), i);
        }
        due("14: the first itself", s.first(8), 8);
        due("14: the second", s.first(9), 8);
        due("14: the least of several", s.first(10), 8);
        due("14: an input", s.first(11), 5);
        due("14: opposite does not count", s.first(12), 12);
        due("14: input 0", s.first(s.gate(1, 0, 0, 0)), 0);
        s.drop();
        due("14: no wire yet", s.first(13), BAD);
        s.drop();
        due("14: dropped", s.first(12), BAD);
        for (int no : NO_WIRE_OF_A_NEW_OBJECT) {
            due("14: first(" + no + ")", new SweepChecker().first(no), BAD);
        }
    }

    // Promise 15
    private static void groups() {
        SweepChecker s = new SweepChecker();
        s.gate(0, 0, 1, 0);
        due("15: a new group", s.groups(), 9);
        s.gate(0, 1, 0, 0);
        due("15: an old group", s.groups(), 9);
        s.gate(1, 7, 7, 0);
        due("15: the group of an input", s.groups(), 9);
        s.gate(3, 0, 1, 0);
        due("15: opposite is a group of its own", s.groups(), 10);
        s.drop();
        due("15: a group is gone", s.groups(), 9);
        s.drop();
        due("15: a group of two loses one", s.groups(), 9);
        SweepChecker alike = new SweepChecker();
        for (int w = 8; w < 40; w++) {
            alike.gate(0, w - 1, w - 1, 0);
        }
        due("15: all gates like input 7", alike.groups(), 8);
    }

    // Promise 16
    private static void symmetric() {
        SweepChecker s = new SweepChecker();
        int and = s.gate(0, 0, 7, 0);
        int imp = s.gate(6, 0, 7, 0);
        int most = s.gate(8, 1, 3, 5);
        int choice = s.gate(7, 0, 1, 2);
        int zero = s.gate(2, 0, 0, 0);
        due("16: and", s.symmetric(and, 0, 7), true);
        due("16: and, turned", s.symmetric(and, 7, 0), true);
        due("16: and, one of its inputs and another", s.symmetric(and, 0, 3), false);
        due("16: and, two others", s.symmetric(and, 3, 4), true);
        due("16: implication", s.symmetric(imp, 0, 7), false);
        due("16: two of three", s.symmetric(most, 1, 5), true);
        due("16: choice, 0 and 1", s.symmetric(choice, 0, 1), false);
        due("16: choice, 1 and 2", s.symmetric(choice, 1, 2), false);
        due("16: constant", s.symmetric(zero, 2, 6), true);
        for (int i = 0; i < 8; i++) {
            due("16: i with itself", s.symmetric(imp, i, i), true);
        }
        for (int no : NO_INPUT) {
            due("16: symmetric(zero, " + no + ", 0)", s.symmetric(zero, no, 0), false);
            due("16: symmetric(zero, 0, " + no + ")", s.symmetric(zero, 0, no), false);
            due("16: symmetric(zero, " + no + ", " + no + ")", s.symmetric(zero, no, no), false);
        }
        due("16: a wire that is no input is no i", s.symmetric(zero, and, and), false);
        for (int no : NO_WIRE_OF_A_NEW_OBJECT) {
            due("16: symmetric(" + no + ", 0, 0)", new SweepChecker().symmetric(no, 0, 0), false);
        }
    }

    // Promise 17
    private static void follows() {
        SweepChecker s = new SweepChecker();
        int and = s.gate(0, 0, 7, 0);
        int nor = s.gate(4, 0, 7, 0);
        int xor = s.gate(2, 0, 7, 0);
        int imp = s.gate(6, 0, 7, 0);
        int choice = s.gate(7, 0, 1, 2);
        int all = allOf(s);
        int notAll = s.gate(3, all, all, 0);
        for (int i : new int[] {0, 7}) {
            due("17: and", s.follows(and, i), 1);
            due("17: nor", s.follows(nor, i), 2);
            due("17: xor", s.follows(xor, i), 3);
            due("17: rises once", s.follows(all, i), 1);
            due("17: falls once", s.follows(notAll, i), 2);
        }
        int none = noneOf(s);
        due("17: falls from assignment 0 alone", s.follows(none, 0), 2);
        due("17: falls from assignment 0 alone", s.follows(none, 7), 2);
        due("17: implication, a", s.follows(imp, 0), 2);
        due("17: implication, b", s.follows(imp, 7), 1);
        due("17: implication, another", s.follows(imp, 3), 0);
        due("17: choice, a", s.follows(choice, 0), 3);
        due("17: choice, b", s.follows(choice, 1), 1);
        due("17: choice, c", s.follows(choice, 2), 1);
        due("17: constant", s.follows(s.gate(2, 0, 0, 0), 0), 0);
        for (int no : NO_INPUT) {
            due("17: follows(and, " + no + ")", s.follows(and, no), BAD);
        }
        due("17: a wire that is no input is no i", s.follows(and, and), BAD);
        for (int no : NO_WIRE_OF_A_NEW_OBJECT) {
            due("17: follows(" + no + ", 0)", new SweepChecker().follows(no, 0), BAD);
        }
    }
}
