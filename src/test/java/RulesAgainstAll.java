/**
 * Holds shadow() and exact() against all that the unknown could be: for every SORT and every pair
 * of octets whose bits are each 0, 1 or unknown (3^8 of each), whatever the unknown bits have.
 */
public final class RulesAgainstAll {
    private static final int ONE_SIDE = 6561, MOST_CALLS = 500;
    private static final String[] NAMES = {"and", "or", "either", "sum", "difference", "left", "right"};

    // Of each octet of three-way bits, as a number of base 3 (digit 2: unknown).
    private static final int[] KNOWN = new int[ONE_SIDE], UNKNOWN = new int[ONE_SIDE];
    // Its lowest unknown bit taken as 0 and as 1; both lie below it, so they are worked out ahead.
    private static final int[] AS_ZERO = new int[ONE_SIDE], AS_ONE = new int[ONE_SIDE];

    private static int wrong = 0;
    private static int calls = 0;
    private static BitShadows shadows = new BitShadows();

    private static BitShadows fresh() {
        calls++;
        if (calls > MOST_CALLS) {
            shadows = new BitShadows();
            calls = 0;
        }
        return shadows;
    }

    private static void spread() {
        for (int i = 0; i < ONE_SIDE; i++) {
            AS_ZERO[i] = -1;
            int rest = i;
            int weight = 1;
            for (int bit = 0; bit < 8; bit++) {
                int digit = rest % 3;
                KNOWN[i] |= digit == 1 ? 1 << bit : 0;
                UNKNOWN[i] |= digit == 2 ? 1 << bit : 0;
                if (digit == 2 && AS_ZERO[i] < 0) {
                    AS_ZERO[i] = i - 2 * weight;
                    AS_ONE[i] = i - weight;
                }
                rest /= 3;
                weight *= 3;
            }
        }
    }

    private static int plain(int sort, int a, int b) {
        switch (sort) {
            case 0: return a & b;
            case 1: return a | b;
            case 2: return a ^ b;
            case 3: return (a + b) % 256;
            case 4: return (a - b + 256) % 256;
            case 5: return (a << b % 8) % 256;
            default: return a >> b % 8;
        }
    }

    private static boolean bit(int v, int k) {
        return (v >> k & 1) == 1;
    }

    /** The document's words, one bit at a time. */
    private static int shadowByWords(int sort, int a, int s, int b, int t) {
        int leastA = a & ~s, mostA = a | s, leastB = b & ~t, mostB = b | t;
        if (sort >= 5 && t % 8 != 0) {
            return 255;
        }
        if (sort >= 5) {
            return plain(sort, s, b);
        }
        int r = 0;
        for (int k = 0; k < 8; k++) {
            boolean either = bit(s, k) || bit(t, k);
            boolean is;
            switch (sort) {
                case 0: is = either && !(!bit(s, k) && !bit(a, k)) && !(!bit(t, k) && !bit(b, k)); break;
                case 1: is = either && !(!bit(s, k) && bit(a, k)) && !(!bit(t, k) && bit(b, k)); break;
                case 2: is = either; break;
                case 3: is = either || bit(leastA + leastB, k) != bit(mostA + mostB, k); break;
                default: is = either || bit((leastA - mostB + 256) % 256, k) != bit((mostA - leastB + 256) % 256, k); break;
            }
            r |= is ? 1 << k : 0;
        }
        return r;
    }

    private static void due(String call, int sort, int[] in, int got, int want) {
        if (got != want) {
            wrong++;
            if (wrong <= 20) {
                System.out.println(call + "(" + NAMES[sort] + ", " + in[0] + ", " + in[1] + ", " + in[2] + ", " + in[3] + ") answered " + got + ", due is " + want);
            }
        }
    }

    private static void check(int sort, int i, int j, int exact) {
        int mixed = (i * 31 + j) * 0x9E3779B1;
        // What the unknown bits have must not matter to EXACT.
        int a = KNOWN[i] | UNKNOWN[i] & mixed >>> 8;
        int b = KNOWN[j] | UNKNOWN[j] & mixed >>> 16;
        int s = UNKNOWN[i], t = UNKNOWN[j];
        int[] in = {a, s, b, t};
        due("exact", sort, in, fresh().exact(sort, a, s, b, t), exact);
        due("shadow", sort, in, fresh().shadow(sort, a, s, b, t), shadowByWords(sort, a, s, b, t));
    }

    /** ones: bits that can be 1; musts: bits that are 1 in all; each from the two halves of what could be. */
    private static void checkSort(int sort) {
        byte[] ones = new byte[ONE_SIDE * ONE_SIDE];
        byte[] musts = new byte[ONE_SIDE * ONE_SIDE];
        for (int i = 0; i < ONE_SIDE; i++) {
            for (int j = 0; j < ONE_SIDE; j++) {
                int at = i * ONE_SIDE + j;
                if (AS_ZERO[i] < 0 && AS_ZERO[j] < 0) {
                    ones[at] = (byte) plain(sort, KNOWN[i], KNOWN[j]);
                    musts[at] = ones[at];
                } else {
                    boolean first = AS_ZERO[i] >= 0;
                    int zero = first ? AS_ZERO[i] * ONE_SIDE + j : i * ONE_SIDE + AS_ZERO[j];
                    int one = first ? AS_ONE[i] * ONE_SIDE + j : i * ONE_SIDE + AS_ONE[j];
                    ones[at] = (byte) (ones[zero] | ones[one]);
                    musts[at] = (byte) (musts[zero] & musts[one]);
                }
                check(sort, i, j, ones[at] & ~musts[at] & 255);
            }
        }
    }

    public static void main(String[] args) {
        spread();
        for (int sort = 0; sort < NAMES.length; sort++) {
            checkSort(sort);
        }
        System.out.println(wrong == 0 ? "all rules are as due for all that could be" : wrong + " answers are not as due");
        if (wrong != 0) {
            System.exit(1);
        }
    }
}
