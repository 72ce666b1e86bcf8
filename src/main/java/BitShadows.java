/**
 * Eight registers and thirty-two octets, each bit with a value and a shadow that tells whether
 * that value may be known. The words in capitals are those of the document.
 */
public final class BitShadows {
    public static final int NONE = -1, UNKNOWN = -1000000001, OUTSIDE = -1000000002, NOT = -1000000003, FULL = -1000000004;

    private static final int REGISTERS = 8, OCTETS = 32, CELLS = REGISTERS + OCTETS;
    private static final int GROUNDS_MOST = 12, GROUND_LENGTH_MOST = 8;
    private static final int CRIES_KEPT = 20, IMAGES = 2, DRIFT_MOST = 40;
    // Both are powers of two: a place in such a row is found by a mask, which no number leaves.
    private static final int RING_LENGTH = 16, UNDO_LENGTH = 32;

    private static final int BYTE = 255, PLACE_BITS = 31, SHIFT_BITS = 7;
    private static final int LOT_FACTOR = 16807, LOT_DIVISOR = 2147483647;

    private static final int AND = 0, OR = 1, EITHER = 2, SUM = 3, DIFFERENCE = 4, LEFT = 5, SORTS = 7;

    private static final int DID_SET = 0, DID_COPY = 1, DID_LOAD = 2, DID_STORE = 3, DID_RULE = 4, DID_DECIDE = 5;
    private static final int DID_LET = 6, DID_GIVE_BACK = 7, DID_PART = 8, DID_LOAD_AT = 9, DID_STORE_AT = 10, DID_FORGET = 11;

    private static final int CRY_DECISION = 0, CRY_PLACE = 1, CRY_DEAD = 2;

    private final House house = new House();
    private final House firstImage = new House();
    private final House secondImage = new House();
    private final Grounds grounds = new Grounds();
    private final Cries cries = new Cries();
    private final Ring lastDone = new Ring();
    private final Changes changes = new Changes();
    private int keptImages;
    private int lotNow;
    private int ticks;
    private int slackAll;
    private long markNow;

    public BitShadows() {
        begin();
    }

    public int start() {
        int were = ticks;
        begin();
        return were;
    }

    // ---- what is done

    public int set(int r, int v) {
        if (!isRegister(r)) {
            return UNKNOWN;
        }
        if (!isByte(v)) {
            return OUTSIDE;
        }
        int was = Cell.valueOf(house.cells[r]);
        changeRegister(r, Cell.of(v, 0, 0));
        return tick(DID_SET, was);
    }

    public int forget(int r, int bits, int ground) {
        if (!isRegister(r) || !grounds.has(ground)) {
            return UNKNOWN;
        }
        if (bits < 1 || bits > BYTE) {
            return OUTSIDE;
        }
        int was = house.cells[r];
        int shadow = Cell.shadowOf(was) | bits;
        changeRegister(r, Cell.of(Cell.valueOf(was), shadow, Cell.fromOf(was) | (1 << ground)));
        return tick(DID_FORGET, shadow);
    }

    public int copy(int r, int from) {
        if (!isRegister(r) || !isRegister(from)) {
            return UNKNOWN;
        }
        changeRegister(r, house.cells[from]);
        return tick(DID_COPY, shadowOfRegister(r));
    }

    public int load(int r, int octet) {
        if (!isRegister(r) || !isOctet(octet)) {
            return UNKNOWN;
        }
        changeRegister(r, readOctet(octet));
        return tick(DID_LOAD, shadowOfRegister(r));
    }

    public int part(int r, int octet, int low, int n) {
        if (!isRegister(r) || !isOctet(octet)) {
            return UNKNOWN;
        }
        // low is looked at alone first: low + n could wrap around.
        if (n < 1 || n > 8 || low < 0 || low > 7 || low + n > 8) {
            return OUTSIDE;
        }
        changeRegister(r, Cell.partOf(readOctet(octet), low, n));
        return tick(DID_PART, shadowOfRegister(r));
    }

    public int store(int r, int octet) {
        if (!isRegister(r) || !isOctet(octet)) {
            return UNKNOWN;
        }
        changeOctet(octet, house.cells[r]);
        return tick(DID_STORE, shadowOfRegister(r));
    }

    public int loadAt(int r, int at) {
        if (!isRegister(r) || !isRegister(at)) {
            return UNKNOWN;
        }
        changeRegister(r, readOctet(placeAt(at)));
        return tick(DID_LOAD_AT, shadowOfRegister(r));
    }

    public int storeAt(int r, int at) {
        if (!isRegister(r) || !isRegister(at)) {
            return UNKNOWN;
        }
        changeOctet(placeAt(at), house.cells[r]);
        return tick(DID_STORE_AT, shadowOfRegister(r));
    }

    public int rule(int sort, int r, int a, int b) {
        if (!isRegister(r) || !isRegister(a) || !isRegister(b)) {
            return UNKNOWN;
        }
        if (!isSort(sort)) {
            return OUTSIDE;
        }
        slackAll += Rules.slackOf(sort, house.cells[a], house.cells[b]);
        return followRule(sort, r, a, b);
    }

    public int decide(int r) {
        if (!isRegister(r)) {
            return UNKNOWN;
        }
        int cell = house.cells[r];
        if (!Cell.isDecided(cell)) {
            cries.add(CRY_DECISION, ticks, Cell.fromOf(cell));
        }
        return tick(DID_DECIDE, Cell.valueOf(cell) != 0 ? 1 : 0);
    }

    public int let(int a, int n) {
        // a is looked at alone first: a + n could wrap around.
        if (!isOctet(a) || n < 1 || n > GROUND_LENGTH_MOST || a + n > OCTETS) {
            return OUTSIDE;
        }
        if (grounds.anyIsLet(a, n)) {
            return NOT;
        }
        if (grounds.count >= GROUNDS_MOST) {
            return FULL;
        }
        int ground = grounds.open(a, n);
        for (int o = a; o < a + n; o++) {
            house.cells[REGISTERS + o] = Cell.of(nextLot() % 256, BYTE, 1 << ground);
        }
        house.dead &= ~octetSet(a, n);
        return tick(DID_LET, ground);
    }

    public int giveBack(int ground) {
        if (!grounds.has(ground)) {
            return UNKNOWN;
        }
        if (!grounds.isLet(ground)) {
            return NOT;
        }
        grounds.close(ground);
        house.dead |= octetSet(grounds.firsts[ground], grounds.lengths[ground]);
        return tick(DID_GIVE_BACK, Integer.bitCount(grounds.letSet));
    }

    public int drift(int n) {
        if (n < 1 || n > DRIFT_MOST) {
            return OUTSIDE;
        }
        for (int i = 0; i < n; i++) {
            doByLots();
        }
        return cries.counted;
    }

    public int lot(int v) {
        if (v < 1 || v >= LOT_DIVISOR) {
            return OUTSIDE;
        }
        int was = lotNow;
        lotNow = v;
        return was;
    }

    public int undo() {
        if (changes.count == 0) {
            return NOT;
        }
        // What is DEAD stays, so the cell alone goes back.
        changes.takeBackLatest(house.cells);
        return changes.count;
    }

    // ---- what is told

    public int told(int what) {
        switch (what) {
            case 0: return ticks;
            case 1: return cries.counted;
            case 2: return cries.kept;
            case 3: return slackAll;
            case 4: return grounds.count;
            case 5: return grounds.letSet;
            case 6: return Integer.bitCount(house.dead);
            case 7: return lastDone.count;
            case 8: return house.unknownBits(0, REGISTERS);
            case 9: return house.unknownBits(REGISTERS, CELLS);
            case 10: return lotNow;
            case 11: return changes.count;
            default: return OUTSIDE;
        }
    }

    public long mark() {
        return markNow;
    }

    public int register(int r, int what) {
        if (!isRegister(r)) {
            return UNKNOWN;
        }
        int cell = house.cells[r];
        switch (what) {
            case 0: return Cell.valueOf(cell);
            case 1: return Cell.shadowOf(cell);
            case 2: return Cell.fromOf(cell);
            case 3: return Cell.leastOf(cell);
            case 4: return Cell.mostOf(cell);
            case 5: return 1 << Integer.bitCount(Cell.shadowOf(cell));
            case 6: return Cell.isDecided(cell) ? 1 : 0;
            default: return OUTSIDE;
        }
    }

    public int octet(int o, int what) {
        if (!isOctet(o)) {
            return UNKNOWN;
        }
        int cell = house.cells[REGISTERS + o];
        switch (what) {
            case 0: return Cell.valueOf(cell);
            case 1: return Cell.shadowOf(cell);
            case 2: return Cell.fromOf(cell);
            case 3: return house.isDead(o) ? 1 : 0;
            case 4: return grounds.lastOver[o];
            default: return OUTSIDE;
        }
    }

    public int ground(int g, int what) {
        if (!grounds.has(g)) {
            return UNKNOWN;
        }
        switch (what) {
            case 0: return grounds.firsts[g];
            case 1: return grounds.lengths[g];
            case 2: return grounds.isLet(g) ? 1 : 0;
            case 3: return cries.countNaming(g);
            default: return OUTSIDE;
        }
    }

    public int cry(int k, int what) {
        if (k < 0 || k >= cries.kept) {
            return UNKNOWN;
        }
        switch (what) {
            case 0: return cries.kinds[k];
            case 1: return cries.ticks[k];
            case 2: return cries.groundSets[k];
            default: return OUTSIDE;
        }
    }

    public int ring(int i, int what) {
        if (what < 0 || what > 2) {
            return OUTSIDE;
        }
        if (i < 0 || i >= lastDone.count) {
            return NONE;
        }
        int place = lastDone.placeOf(i);
        switch (what) {
            case 0: return lastDone.kinds[place];
            case 1: return lastDone.ticks[place];
            default: return lastDone.answers[place];
        }
    }

    public int shadow(int sort, int a, int s, int b, int t) {
        if (!isSort(sort) || !isByte(a) || !isByte(s) || !isByte(b) || !isByte(t)) {
            return OUTSIDE;
        }
        return Rules.shadowBy(sort, a, s, b, t);
    }

    public int exact(int sort, int a, int s, int b, int t) {
        if (!isSort(sort) || !isByte(a) || !isByte(s) || !isByte(b) || !isByte(t)) {
            return OUTSIDE;
        }
        return Rules.exactBy(sort, a, s, b, t);
    }

    // ---- images

    public int keep(int i) {
        if (!isImage(i)) {
            return UNKNOWN;
        }
        imageOf(i).becomeAs(house);
        keptImages |= 1 << i;
        changes.clear();
        return 1;
    }

    public int goBack(int i) {
        if (!isImage(i)) {
            return UNKNOWN;
        }
        if (((keptImages >> i) & 1) == 0) {
            return NOT;
        }
        house.becomeAs(imageOf(i));
        changes.clear();
        return 1;
    }

    // ---- how it is done

    private void begin() {
        house.clear();
        grounds.clear();
        cries.clear();
        lastDone.clear();
        changes.clear();
        keptImages = 0;
        lotNow = 1;
        ticks = 0;
        slackAll = 0;
        markNow = 0;
    }

    private static boolean isRegister(int r) {
        return r >= 0 && r < REGISTERS;
    }

    private static boolean isOctet(int o) {
        return o >= 0 && o < OCTETS;
    }

    private static boolean isImage(int i) {
        return i >= 0 && i < IMAGES;
    }

    private House imageOf(int i) {
        return i == 0 ? firstImage : secondImage;
    }

    private static boolean isByte(int v) {
        return v >= 0 && v <= BYTE;
    }

    private static boolean isSort(int sort) {
        return sort >= 0 && sort < SORTS;
    }

    /** The SET of the n (1 .. 8) OCTETS from a on; all 32 fit in one int. */
    private static int octetSet(int a, int n) {
        return ((1 << n) - 1) << a;
    }

    /** Ends a call of THE RING's kinds: its CRIES come ahead of it, since they bear its TICK. */
    private int tick(int kind, int answer) {
        lastDone.add(kind, ticks, answer);
        markNow = 31 * markNow + answer;
        ticks++;
        return answer;
    }

    private int shadowOfRegister(int r) {
        return Cell.shadowOf(house.cells[r]);
    }

    private void changeRegister(int r, int cell) {
        changes.add(r, house.cells[r]);
        house.cells[r] = cell;
    }

    private void changeOctet(int o, int cell) {
        changes.add(REGISTERS + o, house.cells[REGISTERS + o]);
        house.cells[REGISTERS + o] = cell;
        house.dead &= ~octetSet(o, 1);
    }

    /** The cell of an OCTET, with the CRY if it is DEAD. */
    private int readOctet(int o) {
        int last = grounds.lastOver[o];
        if (house.isDead(o) && last != NONE) {
            cries.add(CRY_DEAD, ticks, 1 << last);
        }
        return house.cells[REGISTERS + o];
    }

    /** The OCTET that a REGISTER tells, with the CRY if it is not known. */
    private int placeAt(int at) {
        int cell = house.cells[at];
        if ((Cell.shadowOf(cell) & PLACE_BITS) != 0) {
            cries.add(CRY_PLACE, ticks, Cell.fromOf(cell));
        }
        return Cell.valueOf(cell) & PLACE_BITS;
    }

    /** A rule without its SLACK, which what is done BY LOTS leaves out. */
    private int followRule(int sort, int r, int a, int b) {
        changeRegister(r, Rules.cellBy(sort, house.cells[a], house.cells[b]));
        return tick(DID_RULE, shadowOfRegister(r));
    }

    private int nextLot() {
        lotNow = (int) ((long) lotNow * LOT_FACTOR % LOT_DIVISOR);
        return lotNow;
    }

    private void doByLots() {
        int kind = nextLot() % 4;
        if (kind == 0) {
            int sort = nextLot() % SORTS;
            int r = nextLot() % REGISTERS;
            int a = nextLot() % REGISTERS;
            followRule(sort, r, a, nextLot() % REGISTERS);
        } else if (kind == 1) {
            int r = nextLot() % REGISTERS;
            load(r, nextLot() % OCTETS);
        } else if (kind == 2) {
            int r = nextLot() % REGISTERS;
            store(r, nextLot() % OCTETS);
        } else {
            decide(nextLot() % REGISTERS);
        }
    }

    /**
     * VALUE, SHADOW and FROM in one int (8, 8 and 12 bits), so that a copy, an image and what is
     * undone can't move one of them without the others.
     */
    private static final class Cell {
        static int of(int value, int shadow, int from) {
            int grounds = shadow == 0 ? 0 : from;
            return value | (shadow << 8) | (grounds << 16);
        }

        static int valueOf(int cell) {
            return cell & BYTE;
        }

        static int shadowOf(int cell) {
            return (cell >> 8) & BYTE;
        }

        static int fromOf(int cell) {
            return cell >> 16;
        }

        static int leastOf(int cell) {
            return valueOf(cell) & ~shadowOf(cell);
        }

        static int mostOf(int cell) {
            return valueOf(cell) | shadowOf(cell);
        }

        static boolean isDecided(int cell) {
            return leastOf(cell) != 0 || shadowOf(cell) == 0;
        }

        static int partOf(int cell, int low, int n) {
            int mask = (1 << n) - 1;
            return of((valueOf(cell) >> low) & mask, (shadowOf(cell) >> low) & mask, fromOf(cell));
        }
    }

    /** RULES over VALUES a, b and SHADOWS s, t, all of them 0 .. 255. */
    private static final class Rules {
        static int valueBy(int sort, int a, int b) {
            switch (sort) {
                case AND: return a & b;
                case OR: return a | b;
                case EITHER: return a ^ b;
                case SUM: return (a + b) & BYTE;
                case DIFFERENCE: return (a - b) & BYTE;
                case LEFT: return (a << (b & SHIFT_BITS)) & BYTE;
                default: return a >> (b & SHIFT_BITS);
            }
        }

        static int shadowBy(int sort, int a, int s, int b, int t) {
            int leastA = a & ~s;
            int mostA = a | s;
            int leastB = b & ~t;
            int mostB = b | t;
            switch (sort) {
                case AND: return (s | t) & mostA & mostB;
                case OR: return (s | t) & ~leastA & ~leastB;
                case EITHER: return s | t;
                case SUM: return (((leastA + leastB) ^ (mostA + mostB)) | s | t) & BYTE;
                case DIFFERENCE: return (((leastA - mostB) ^ (mostA - leastB)) | s | t) & BYTE;
                default: return (t & SHIFT_BITS) != 0 ? BYTE : valueBy(sort, s, b);
            }
        }

        /**
         * All sorts but the shifts tell by their own rule just what is EXACT: and, or, either go
         * bit by bit; a carry only rises with every bit of a sum (a borrow falls with a and rises
         * with b), so the two ends tell whether it can be both 0 and 1, and a bit that is unknown
         * turns its own bit of what comes.
         */
        static int exactBy(int sort, int a, int s, int b, int t) {
            return sort < LEFT ? shadowBy(sort, a, s, b, t) : exactShift(sort, a, s, b, t);
        }

        private static int exactShift(int sort, int a, int s, int b, int t) {
            int canBeOne = 0;
            int mustBeOne = BYTE;
            for (int by = 0; by <= SHIFT_BITS; by++) {
                boolean possible = ((by ^ b) & ~t & SHIFT_BITS) == 0;
                if (possible) {
                    canBeOne |= valueBy(sort, a | s, by);
                    mustBeOne &= valueBy(sort, a & ~s, by);
                }
            }
            return canBeOne & ~mustBeOne;
        }

        static int cellBy(int sort, int first, int second) {
            int a = Cell.valueOf(first);
            int b = Cell.valueOf(second);
            int shadow = shadowBy(sort, a, Cell.shadowOf(first), b, Cell.shadowOf(second));
            return Cell.of(valueBy(sort, a, b), shadow, Cell.fromOf(first) | Cell.fromOf(second));
        }

        static int slackOf(int sort, int first, int second) {
            int a = Cell.valueOf(first);
            int s = Cell.shadowOf(first);
            int b = Cell.valueOf(second);
            int t = Cell.shadowOf(second);
            return Integer.bitCount(shadowBy(sort, a, s, b, t) & ~exactBy(sort, a, s, b, t));
        }
    }

    /** What an IMAGE keeps: the cells (REGISTERS, then OCTETS) and the SET of DEAD OCTETS. */
    private static final class House {
        final int[] cells = new int[CELLS];
        int dead;

        void clear() {
            for (int i = 0; i < CELLS; i++) {
                cells[i] = 0;
            }
            dead = 0;
        }

        void becomeAs(House other) {
            System.arraycopy(other.cells, 0, cells, 0, CELLS);
            dead = other.dead;
        }

        boolean isDead(int o) {
            return ((dead >>> o) & 1) != 0;
        }

        /** Of the cells from first on, those ahead of end. */
        int unknownBits(int first, int end) {
            int bits = 0;
            for (int i = first; i < end; i++) {
                bits += Integer.bitCount(Cell.shadowOf(cells[i]));
            }
            return bits;
        }
    }

    /** GROUNDS, LET or GIVEN BACK, and which of them was LET last over each OCTET. */
    private static final class Grounds {
        final int[] firsts = new int[GROUNDS_MOST];
        final int[] lengths = new int[GROUNDS_MOST];
        final int[] lastOver = new int[OCTETS];
        int count;
        int letSet;

        void clear() {
            for (int o = 0; o < OCTETS; o++) {
                lastOver[o] = NONE;
            }
            count = 0;
            letSet = 0;
        }

        boolean has(int ground) {
            return ground >= 0 && ground < count;
        }

        boolean isLet(int ground) {
            return ((letSet >> ground) & 1) != 0;
        }

        /** A GROUND that is LET is the last over its OCTETS: none is LET over it meanwhile. */
        boolean anyIsLet(int a, int n) {
            for (int o = a; o < a + n; o++) {
                int last = lastOver[o];
                if (last != NONE && isLet(last)) {
                    return true;
                }
            }
            return false;
        }

        int open(int a, int n) {
            int ground = count;
            firsts[ground] = a;
            lengths[ground] = n;
            for (int o = a; o < a + n; o++) {
                lastOver[o] = ground;
            }
            letSet |= 1 << ground;
            count++;
            return ground;
        }

        void close(int ground) {
            letSet &= ~(1 << ground);
        }
    }

    /** CRIES: all are counted, the first twenty are kept. */
    private static final class Cries {
        final int[] kinds = new int[CRIES_KEPT];
        final int[] ticks = new int[CRIES_KEPT];
        final int[] groundSets = new int[CRIES_KEPT];
        int counted;
        int kept;

        void clear() {
            counted = 0;
            kept = 0;
        }

        void add(int kind, int tick, int groundSet) {
            counted++;
            if (kept < CRIES_KEPT) {
                kinds[kept] = kind;
                ticks[kept] = tick;
                groundSets[kept] = groundSet;
                kept++;
            }
        }

        int countNaming(int ground) {
            int naming = 0;
            for (int k = 0; k < kept; k++) {
                naming += (groundSets[k] >> ground) & 1;
            }
            return naming;
        }
    }

    /** THE RING: the last sixteen that were done. */
    private static final class Ring {
        final int[] kinds = new int[RING_LENGTH];
        final int[] ticks = new int[RING_LENGTH];
        final int[] answers = new int[RING_LENGTH];
        int count;
        int next;

        void clear() {
            count = 0;
            next = 0;
        }

        void add(int kind, int tick, int answer) {
            kinds[next] = kind;
            ticks[next] = tick;
            answers[next] = answer;
            next = (next + 1) & (RING_LENGTH - 1);
            count = Math.min(count + 1, RING_LENGTH);
        }

        /** Where entry i stands, 0 being the latest. */
        int placeOf(int i) {
            return (next - 1 - i) & (RING_LENGTH - 1);
        }
    }

    /** What can be undone: which cell was changed, and what it was ahead of that. */
    private static final class Changes {
        final int[] places = new int[UNDO_LENGTH];
        final int[] befores = new int[UNDO_LENGTH];
        int count;
        int next;

        void clear() {
            count = 0;
            next = 0;
        }

        void add(int place, int before) {
            places[next] = place;
            befores[next] = before;
            next = (next + 1) & (UNDO_LENGTH - 1);
            count = Math.min(count + 1, UNDO_LENGTH);
        }

        /** Asks for one at least. */
        void takeBackLatest(int[] cells) {
            next = (next - 1) & (UNDO_LENGTH - 1);
            cells[places[next]] = befores[next];
            count--;
        }
    }
}
