/** Finds out which wires of a circuit with eight inputs hold the same, and much else about them. */
public final class SweepChecker {
    public static final int BAD = -1;
    public static final int FULL = -2;
    public static final int NONE = -3;

    private static final int INPUTS = 8;
    private static final int MOST_WIRES = 40;
    private static final int ASSIGNMENTS = 256;
    private static final int LAST_KIND = 9;
    private static final int FIRST_KIND_OF_THREE = 7;

    // Eight inputs have only 256 assignments, so a wire's values for all of them fit in four
    // words, and two wires are compared, or joined by a gate, 64 assignments at a time.
    private static final int WORDS = 4;
    private static final int ALL_WORDS = MOST_WIRES * WORDS;

    // Word k of wire w stands at w * WORDS + k; its bit n is the value for assignment 64 * k + n.
    private final long[] words = new long[ALL_WORDS];
    private int wireCount;

    public SweepChecker() {
        wireCount = INPUTS;
        for (int i = 0; i < INPUTS; i++) {
            for (int x = 0; x < ASSIGNMENTS; x++) {
                long inputValue = (x >> i) & 1;
                words[i * WORDS + (x >> 6)] |= inputValue << (x & 63);
            }
        }
    }

    public int gate(int kind, int a, int b, int c) {
        if (kind < 0 || kind > LAST_KIND || !isWire(a) || !isWire(b)) {
            return BAD;
        }
        boolean ofThree = kind >= FIRST_KIND_OF_THREE;
        if (ofThree && !isWire(c)) {
            return BAD;
        }
        if (wireCount >= MOST_WIRES) {
            return FULL;
        }
        // A gate of two wires may be called with any c, so c is then no index.
        int third = ofThree ? c : a;
        int made = wireCount;
        for (int k = 0; k < WORDS; k++) {
            long wordA = words[a * WORDS + k];
            long wordB = words[b * WORDS + k];
            long wordC = words[third * WORDS + k];
            words[made * WORDS + k] = gateWord(kind, wordA, wordB, wordC);
        }
        wireCount = made + 1;
        return made;
    }

    public int drop() {
        if (wireCount <= INPUTS) {
            return BAD;
        }
        wireCount--;
        return wireCount;
    }

    public int wires() {
        return wireCount;
    }

    public int value(int a, int x) {
        if (!isWire(a) || x < 0 || x >= ASSIGNMENTS) {
            return BAD;
        }
        return bitOf(a, x);
    }

    public boolean equal(int a, int b) {
        return isWire(a) && isWire(b) && sameWords(a, b);
    }

    public boolean opposite(int a, int b) {
        if (!isWire(a) || !isWire(b)) {
            return false;
        }
        for (int k = 0; k < WORDS; k++) {
            if (words[a * WORDS + k] != ~words[b * WORDS + k]) {
                return false;
            }
        }
        return true;
    }

    public int constant(int a) {
        if (!isWire(a)) {
            return BAD;
        }
        int ones = onesOf(a);
        if (ones == 0) {
            return 0;
        }
        return ones == ASSIGNMENTS ? 1 : NONE;
    }

    public boolean implies(int a, int b) {
        if (!isWire(a) || !isWire(b)) {
            return false;
        }
        for (int k = 0; k < WORDS; k++) {
            if ((words[a * WORDS + k] & ~words[b * WORDS + k]) != 0L) {
                return false;
            }
        }
        return true;
    }

    public int count(int a) {
        return isWire(a) ? onesOf(a) : BAD;
    }

    public int witness(int a) {
        if (!isWire(a)) {
            return BAD;
        }
        for (int x = 0; x < ASSIGNMENTS; x++) {
            if (bitOf(a, x) == 1) {
                return x;
            }
        }
        return NONE;
    }

    public int differ(int a, int b) {
        if (!isWire(a) || !isWire(b)) {
            return BAD;
        }
        for (int x = 0; x < ASSIGNMENTS; x++) {
            if (bitOf(a, x) != bitOf(b, x)) {
                return x;
            }
        }
        return NONE;
    }

    public int depends(int a) {
        if (!isWire(a)) {
            return BAD;
        }
        int inputs = 0;
        for (int i = 0; i < INPUTS; i++) {
            if (changesBy(a, i) != 0) {
                inputs |= 1 << i;
            }
        }
        return inputs;
    }

    public int first(int a) {
        return isWire(a) ? leastEqual(a) : BAD;
    }

    public int groups() {
        int found = 0;
        for (int w = 0; w < wireCount; w++) {
            // Each group has just one least wire, so these stand for the groups.
            if (leastEqual(w) == w) {
                found++;
            }
        }
        return found;
    }

    public boolean symmetric(int a, int i, int j) {
        if (!isWire(a) || !isInput(i) || !isInput(j)) {
            return false;
        }
        for (int x = 0; x < ASSIGNMENTS; x++) {
            boolean bitsDiffer = ((x >> i) & 1) != ((x >> j) & 1);
            // Only two bits that differ are changed by an exchange, and then both flip.
            if (bitsDiffer && bitOf(a, x) != bitOf(a, x ^ (1 << i) ^ (1 << j))) {
                return false;
            }
        }
        return true;
    }

    public int follows(int a, int i) {
        return isWire(a) && isInput(i) ? changesBy(a, i) : BAD;
    }

    private boolean isWire(int a) {
        return a >= 0 && a < wireCount;
    }

    private static boolean isInput(int i) {
        return i >= 0 && i < INPUTS;
    }

    private int bitOf(int a, int x) {
        return (int) (words[a * WORDS + (x >> 6)] >>> (x & 63)) & 1;
    }

    private static long gateWord(int kind, long a, long b, long c) {
        switch (kind) {
            case 0:
                return a & b;
            case 1:
                return a | b;
            case 2:
                return a ^ b;
            case 3:
                return ~(a & b);
            case 4:
                return ~(a | b);
            case 5:
                return ~(a ^ b);
            case 6:
                return ~a | b;
            case 7:
                return (a & b) | (~a & c);
            case 8:
                return (a & b) | (a & c) | (b & c);
            default:
                return a ^ b ^ c;
        }
    }

    private boolean sameWords(int a, int b) {
        for (int k = 0; k < WORDS; k++) {
            if (words[a * WORDS + k] != words[b * WORDS + k]) {
                return false;
            }
        }
        return true;
    }

    private int onesOf(int a) {
        int ones = 0;
        for (int x = 0; x < ASSIGNMENTS; x++) {
            ones += bitOf(a, x);
        }
        return ones;
    }

    private int leastEqual(int a) {
        for (int w = 0; w < a; w++) {
            if (sameWords(w, a)) {
                return w;
            }
        }
        return a;
    }

    /** Bit 0 when a rise of input i can make wire a rise, bit 1 when it can make it fall. */
    private int changesBy(int a, int i) {
        int changes = 0;
        for (int x = 0; x < ASSIGNMENTS; x++) {
            if (((x >> i) & 1) == 0) {
                int before = bitOf(a, x);
                int after = bitOf(a, x | (1 << i));
                if (before < after) {
                    changes |= 1;
                } else if (before > after) {
                    changes |= 2;
                }
            }
        }
        return changes;
    }
}
