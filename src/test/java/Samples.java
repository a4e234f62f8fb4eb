/** Objects whose every answer is known beforehand, and numbers that are no wire of them. */
final class Samples {
    static final int INPUTS = 8;
    static final int MOST = 40;

    private Samples() {
    }

    /** Wire w of it is input w % 8, turned round (0 for 1) when w / 8 is odd. */
    static SweepChecker grownTo(int size) {
        SweepChecker s = new SweepChecker();
        growTo(s, size);
        return s;
    }

    /** Has the same wires as grownTo(size), but others came after them and were taken away. */
    static SweepChecker droppedTo(int size) {
        SweepChecker s = grownTo(MOST);
        dropTo(s, size);
        return s;
    }

    static SweepChecker[] bothWays(int size) {
        return new SweepChecker[] {grownTo(size), droppedTo(size)};
    }

    static void growTo(SweepChecker s, int size) {
        for (int w = s.wires(); w < size; w++) {
            s.gate(3, w - 8, w - 8, 0);
        }
    }

    static void dropTo(SweepChecker s, int size) {
        for (int left = s.wires(); left > size; left--) {
            s.drop();
        }
    }

    /** Its last wire but one is 0 for every assignment, its last one is 1 for every one. */
    static SweepChecker withZeroAndOneLast(int size) {
        SweepChecker s = droppedTo(size - 2);
        s.gate(2, 0, 0, 0);
        s.gate(5, 0, 0, 0);
        return s;
    }

    static int turned(int w) {
        return w / 8 % 2;
    }

    static int value(int w, int x) {
        return (x >> w % 8) % 2 ^ turned(w);
    }

    /** The first number outside on either side, the least and the greatest int, and numbers
     *  that a multiplication by a small power of two turns into small ones. */
    static int[] noWires(int size) {
        return new int[] {-1, size, Integer.MIN_VALUE, Integer.MAX_VALUE, size + 1, -size, 41, 256,
                1 << 24, 1 << 29, 1 << 30, (1 << 30) + 7, -(1 << 30), Integer.MIN_VALUE + 7};
    }

    /** Makes a wire that is 1 for the assignment x alone; at most 15 wires are made. */
    static int only(SweepChecker s, int x) {
        int wire = -1;
        for (int i = 0; i < INPUTS; i++) {
            int literal = (x >> i) % 2 == 1 ? i : s.gate(4, i, i, 0);
            wire = wire < 0 ? literal : s.gate(0, wire, literal, 0);
        }
        return wire;
    }

    static int not(SweepChecker s, int wire) {
        return s.gate(3, wire, wire, 0);
    }
}
