/** The document's words put down anew, an assignment at a time, to compare the class with. */
final class Circuit {
    private static final int BAD = -1;
    private static final int FULL = -2;
    private static final int NONE = -3;

    private final int[][] gates = new int[40][];
    private int size = 8;

    int gate(int kind, int a, int b, int c) {
        boolean usesC = kind == 7 || kind == 8 || kind == 9;
        if (kind < 0 || kind > 9 || missing(a) || missing(b) || usesC && missing(c)) {
            return BAD;
        }
        if (size == 40) {
            return FULL;
        }
        gates[size] = new int[] {kind, a, b, usesC ? c : 0};
        return size++;
    }

    int drop() {
        return size == 8 ? BAD : --size;
    }

    int wires() {
        return size;
    }

    int value(int a, int x) {
        return missing(a) || x < 0 || x > 255 ? BAD : valuesFor(x)[a];
    }

    boolean equal(int a, int b) {
        return !missing(a) && !missing(b) && differences(a, b) == 0;
    }

    boolean opposite(int a, int b) {
        return !missing(a) && !missing(b) && differences(a, b) == 256;
    }

    int constant(int a) {
        int ones = count(a);
        return ones == BAD ? BAD : ones == 0 ? 0 : ones == 256 ? 1 : NONE;
    }

    boolean implies(int a, int b) {
        if (missing(a) || missing(b)) {
            return false;
        }
        boolean always = true;
        for (int x = 0; x < 256; x++) {
            int[] values = valuesFor(x);
            always &= values[a] == 0 || values[b] == 1;
        }
        return always;
    }

    int count(int a) {
        if (missing(a)) {
            return BAD;
        }
        int ones = 0;
        for (int x = 0; x < 256; x++) {
            ones += valuesFor(x)[a];
        }
        return ones;
    }

    int witness(int a) {
        if (missing(a)) {
            return BAD;
        }
        int least = NONE;
        for (int x = 255; x >= 0; x--) {
            least = valuesFor(x)[a] == 1 ? x : least;
        }
        return least;
    }

    int differ(int a, int b) {
        if (missing(a) || missing(b)) {
            return BAD;
        }
        int least = NONE;
        for (int x = 255; x >= 0; x--) {
            int[] values = valuesFor(x);
            least = values[a] != values[b] ? x : least;
        }
        return least;
    }

    int depends(int a) {
        if (missing(a)) {
            return BAD;
        }
        int inputs = 0;
        for (int x = 0; x < 256; x++) {
            for (int i = 0; i < 8; i++) {
                if (valuesFor(x)[a] != valuesFor(x ^ 1 << i)[a]) {
                    inputs |= 1 << i;
                }
            }
        }
        return inputs;
    }

    int first(int a) {
        if (missing(a)) {
            return BAD;
        }
        int least = 0;
        while (differences(least, a) != 0) {
            least++;
        }
        return least;
    }

    int groups() {
        java.util.Set<String> tables = new java.util.HashSet<>();
        StringBuilder[] rows = new StringBuilder[size];
        for (int w = 0; w < size; w++) {
            rows[w] = new StringBuilder();
        }
        for (int x = 0; x < 256; x++) {
            int[] values = valuesFor(x);
            for (int w = 0; w < size; w++) {
                rows[w].append(values[w]);
            }
        }
        for (StringBuilder row : rows) {
            tables.add(row.toString());
        }
        return tables.size();
    }

    boolean symmetric(int a, int i, int j) {
        if (missing(a) || i < 0 || i > 7 || j < 0 || j > 7) {
            return false;
        }
        boolean always = true;
        for (int x = 0; x < 256; x++) {
            int bitI = x >> i & 1;
            int bitJ = x >> j & 1;
            int exchanged = x & ~(1 << i) & ~(1 << j) | bitI << j | bitJ << i;
            always &= valuesFor(x)[a] == valuesFor(exchanged)[a];
        }
        return always;
    }

    int follows(int a, int i) {
        if (missing(a) || i < 0 || i > 7) {
            return BAD;
        }
        boolean up = false;
        boolean down = false;
        for (int x = 0; x < 256; x++) {
            int low = valuesFor(x & ~(1 << i))[a];
            int high = valuesFor(x | 1 << i)[a];
            up |= low == 0 && high == 1;
            down |= low == 1 && high == 0;
        }
        return up && down ? 3 : down ? 2 : up ? 1 : 0;
    }

    private boolean missing(int a) {
        return a < 0 || a >= size;
    }

    private int differences(int a, int b) {
        int found = 0;
        for (int x = 0; x < 256; x++) {
            int[] values = valuesFor(x);
            found += values[a] != values[b] ? 1 : 0;
        }
        return found;
    }

    private int[] valuesFor(int x) {
        int[] values = new int[size];
        for (int w = 0; w < size; w++) {
            values[w] = w < 8 ? x >> w & 1 : gateValue(gates[w], values);
        }
        return values;
    }

    private static int gateValue(int[] gate, int[] values) {
        int a = values[gate[1]];
        int b = values[gate[2]];
        int c = values[gate[3]];
        boolean one;
        switch (gate[0]) {
            case 0: one = a + b == 2; break;
            case 1: one = a + b != 0; break;
            case 2: one = a + b == 1; break;
            case 3: one = a + b != 2; break;
            case 4: one = a + b == 0; break;
            case 5: one = a + b != 1; break;
            case 6: one = !(a == 1 && b == 0); break;
            case 7: one = a == 1 ? b == 1 : c == 1; break;
            case 8: one = a + b + c >= 2; break;
            default: one = a + b + c == 1 || a + b + c == 3; break;
        }
        return one ? 1 : 0;
    }
}
