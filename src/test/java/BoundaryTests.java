import java.math.BigInteger;

/**
 * One test for each sentence of the document that names a boundary: too small, too large, empty,
 * full, a wrap-around. (ArgumentEdgeTests has the bounds of arguments and the refusals.)
 */
public final class BoundaryTests {
    private static final int NONE = -1, UNKNOWN = -1000000001, NOT = -1000000003, FULL = -1000000004;
    private static final int TICKS = 0, CRIES = 1, CRIES_KEPT = 2, SLACK = 3, GROUNDS = 4, LET = 5;
    private static final int DEAD = 6, RING = 7, REGISTER_BITS = 8, OCTET_BITS = 9, LOT = 10, UNDOABLE = 11;
    private static final int VALUE = 0, SHADOW = 1, FROM = 2;
    private static final int AND = 0, OR = 1, EITHER = 2, SUM = 3, DIFFERENCE = 4, LEFT = 5, RIGHT = 6;
    private static final int CALLS = 512;

    private interface Test {
        void run();
    }

    private static String sentence = "";
    private static int tests = 0;
    private static int wrong = 0;

    private static void says(String words, Test test) {
        sentence = words;
        tests++;
        test.run();
    }

    private static void due(String what, long got, long want) {
        if (got != want) {
            wrong++;
            System.out.println("'" + sentence + "': " + what + " is " + got + ", due is " + want);
        }
    }

    private static void dueRegister(BitShadows x, int r, int value, int shadow, int from) {
        due("VALUE of REGISTER " + r, x.register(r, VALUE), value);
        due("SHADOW of REGISTER " + r, x.register(r, SHADOW), shadow);
        due("FROM of REGISTER " + r, x.register(r, FROM), from);
    }

    private static void dueOctet(BitShadows x, int o, int value, int shadow, int from) {
        due("VALUE of OCTET " + o, x.octet(o, VALUE), value);
        due("SHADOW of OCTET " + o, x.octet(o, SHADOW), shadow);
        due("FROM of OCTET " + o, x.octet(o, FROM), from);
    }

    private static void dueCry(BitShadows x, int k, int kind, int tick, int grounds) {
        due("which CRY " + k, x.cry(k, 0), kind);
        due("TICK of CRY " + k, x.cry(k, 1), tick);
        due("GROUNDS of CRY " + k, x.cry(k, 2), grounds);
    }

    /** GROUND 0 over OCTETS 0 .. 3, GROUND 1 over 4 .. 7: two TICKS, X wanted eight times. */
    private static BitShadows twoGrounds() {
        BitShadows x = new BitShadows();
        x.let(0, 4);
        x.let(4, 4);
        return x;
    }

    /** GROUND g over OCTET g, twelve of them. */
    private static BitShadows twelveGrounds() {
        BitShadows x = new BitShadows();
        for (int g = 0; g < 12; g++) {
            x.let(g, 1);
        }
        return x;
    }

    /** REGISTER r has a VALUE, and a SHADOW (perhaps 0) FROM a GROUND. */
    private static void give(BitShadows x, int r, int value, int shadow, int ground) {
        x.set(r, value);
        if (shadow != 0) {
            x.forget(r, shadow, ground);
        }
    }

    private static long wantedAfter(long lot, int times) {
        for (int i = 0; i < times; i++) {
            lot = lot * 16807 % 2147483647;
        }
        return lot;
    }

    // ---- what it is: 512 calls

    private static void ticksOf512Calls() {
        BitShadows x = new BitShadows();
        for (int i = 0; i < CALLS - 1; i++) {
            due("set, call " + (i + 1), x.set(i % 8, i % 256), i < 8 ? 0 : (i - 8) % 256);
        }
        due("TICKS by the 512th call", x.told(TICKS), CALLS - 1);
    }

    private static void driftsOf512Calls() {
        BitShadows x = new BitShadows();
        for (int i = 0; i < CALLS - 1; i++) {
            due("drift, no CRY without a GROUND", x.drift(40), 0);
        }
        due("TICKS by the 512th call", x.told(TICKS), 40 * (CALLS - 1));
    }

    private static void criesOf512Calls() {
        BitShadows x = new BitShadows();
        x.let(0, 1);
        x.load(0, 0);
        for (int i = 0; i < CALLS - 3; i++) {
            x.decide(0);
        }
        due("CRIES by the 512th call", x.told(CRIES), CALLS - 3);
    }

    private static void slackOf512Calls() {
        BitShadows x = new BitShadows();
        x.let(0, 1);
        x.forget(0, 7, 0);
        for (int i = 0; i < CALLS - 3; i++) {
            x.rule(LEFT, 1, 2, 0);
        }
        due("SLACK ALL by the 512th call", x.told(SLACK), 8 * (CALLS - 3));
    }

    private static void markOf512Calls() {
        BitShadows x = new BitShadows();
        BigInteger mark = BigInteger.ZERO;
        int was = 0;
        for (int i = 0; i < CALLS - 1; i++) {
            x.set(0, 255 - i % 256);
            mark = mark.multiply(BigInteger.valueOf(31)).add(BigInteger.valueOf(was));
            was = 255 - i % 256;
        }
        due("MARK by the 512th call", x.mark(), mark.longValue());
    }

    private static void otherLastCalls() {
        BitShadows undone = new BitShadows();
        BitShadows begun = new BitShadows();
        BitShadows let = new BitShadows();
        for (int i = 0; i < CALLS - 1; i++) {
            undone.set(0, i % 256);
            begun.set(0, i % 256);
            let.start();
        }
        due("undo, the 512th call", undone.undo(), 31);
        due("start, the 512th call", begun.start(), CALLS - 1);
        due("let, the 512th call", let.let(0, 1), 0);
    }

    // ---- terms, ahead of 1

    private static void constants() {
        due("NONE", BitShadows.NONE, -1);
        due("UNKNOWN", BitShadows.UNKNOWN, -1000000001);
        due("OUTSIDE", BitShadows.OUTSIDE, -1000000002);
        due("NOT", BitShadows.NOT, -1000000003);
        due("FULL", BitShadows.FULL, -1000000004);
    }

    private static void numbersAsTheyCome() {
        BitShadows x = new BitShadows();
        due("the first GROUND", x.let(20, 2), 0);
        x.giveBack(0);
        due("the next GROUND, over the same", x.let(20, 2), 1);
        due("the next GROUND, below it", x.let(3, 2), 2);
        x.load(0, 3);
        x.decide(0);
        x.load(1, 20);
        x.decide(1);
        due("the first CRY", x.cry(0, FROM), 4);
        due("the next CRY", x.cry(1, FROM), 2);
    }

    private static void setsAreBits() {
        BitShadows x = twelveGrounds();
        for (int g = 0; g < 12; g++) {
            due("FROM GROUND " + g, x.octet(g, FROM), 1 << g);
            x.forget(0, 1, g);
        }
        due("FROM all", x.register(0, FROM), 4095);
        due("all are LET", x.told(LET), 4095);
        x.decide(0);
        due("a CRY names all", x.cry(0, 2), 4095);
        for (int g = 0; g < 12; g++) {
            due("CRIES that name GROUND " + g, x.ground(g, 3), 1);
        }
    }

    private static void housesAreApart() {
        BitShadows one = twoGrounds();
        BitShadows other = new BitShadows();
        one.set(3, 3);
        one.store(3, 30);
        one.keep(0);
        due("TICKS of the other", other.told(TICKS), 0);
        due("X of the other", other.told(LOT), 1);
        due("GROUNDS of the other", other.told(GROUNDS), 0);
        due("IMAGE of the other", other.goBack(0), NOT);
        dueRegister(other, 3, 0, 0, 0);
        dueOctet(other, 30, 0, 0, 0);
        due("TICKS of the one", one.told(TICKS), 4);
    }

    // ---- terms 1

    private static void cellsAreApart() {
        BitShadows x = new BitShadows();
        for (int o = 0; o < 32; o++) {
            x.set(0, 100 + o);
            x.store(0, o);
        }
        for (int r = 0; r < 8; r++) {
            x.set(r, 200 + r);
        }
        for (int r = 0; r < 8; r++) {
            due("REGISTER " + r, x.register(r, VALUE), 200 + r);
        }
        for (int o = 0; o < 32; o++) {
            due("OCTET " + o, x.octet(o, VALUE), 100 + o);
        }
    }

    /** All cells have their own VALUE; each call changes the one that it names, the others stay. */
    private static BitShadows withValues() {
        BitShadows x = twoGrounds();
        for (int o = 8; o < 32; o++) {
            x.set(0, 100 + o);
            x.store(0, o);
        }
        for (int r = 0; r < 8; r++) {
            x.set(r, 200 + r);
        }
        return x;
    }

    private static void dueOthers(BitShadows x, int register, int octet) {
        for (int r = 0; r < 8; r++) {
            if (r != register) {
                dueRegister(x, r, 200 + r, 0, 0);
            }
        }
        for (int o = 8; o < 32; o++) {
            if (o != octet) {
                dueOctet(x, o, 100 + o, 0, 0);
            }
        }
    }

    private static void firstAndLastRegister() {
        for (int r = 0; r < 8; r += 7) {
            int other = 7 - r;
            BitShadows x = withValues();
            due("set", x.set(r, 9), 200 + r);
            dueRegister(x, r, 9, 0, 0);
            due("forget", x.forget(r, 2, 1), 2);
            dueRegister(x, r, 9, 2, 2);
            due("decide", x.decide(r), 1);
            due("copy", x.copy(r, other), 0);
            dueRegister(x, r, 200 + other, 0, 0);
            due("load", x.load(r, 31), 0);
            dueRegister(x, r, 131, 0, 0);
            due("part", x.part(r, 31, 0, 2), 0);
            dueRegister(x, r, 3, 0, 0);
            due("loadAt", x.loadAt(r, other), 0);
            dueRegister(x, r, 100 + (200 + other) % 32, 0, 0);
            due("rule", x.rule(OR, r, other, other), 0);
            dueRegister(x, r, 200 + other, 0, 0);
            dueOthers(x, r, NONE);
        }
    }

    private static void firstAndLastOctet() {
        BitShadows x = withValues();
        due("store to the last", x.store(7, 31), 0);
        dueOctet(x, 31, 207, 0, 0);
        dueOthers(x, NONE, 31);
        due("store to the first", x.store(0, 0), 0);
        dueOctet(x, 0, 200, 0, 0);
        due("beside the first", x.octet(1, SHADOW), 255);
        dueOthers(x, NONE, 31);
        x.set(0, 0);
        due("storeAt the first", x.storeAt(7, 0), 0);
        dueOctet(x, 0, 207, 0, 0);
        x.set(0, 31);
        due("storeAt the last", x.storeAt(6, 0), 0);
        dueOctet(x, 31, 206, 0, 0);
        dueOthers(x, 0, 31);
    }

    private static void leastAndGreatestCells() {
        BitShadows x = twelveGrounds();
        x.set(0, 255);
        x.forget(0, 255, 11);
        dueRegister(x, 0, 255, 255, 2048);
        x.store(0, 31);
        dueOctet(x, 31, 255, 255, 2048);
        x.load(7, 31);
        dueRegister(x, 7, 255, 255, 2048);
        x.set(0, 0);
        x.store(0, 31);
        dueOctet(x, 31, 0, 0, 0);
        x.forget(0, 128, 0);
        dueRegister(x, 0, 0, 128, 1);
    }

    private static void fromIsNothingWhereAllIsKnown() {
        BitShadows x = twoGrounds();
        x.load(0, 0);
        x.set(0, 7);
        due("FROM after set", x.register(0, FROM), 0);
        x.load(0, 0);
        x.copy(0, 1);
        due("FROM after copy", x.register(0, FROM), 0);
        x.load(0, 0);
        x.load(0, 31);
        due("FROM after load", x.register(0, FROM), 0);
        x.store(1, 0);
        due("FROM after store", x.octet(0, FROM), 0);
        x.load(0, 4);
        x.set(1, 5);
        x.storeAt(2, 1);
        due("FROM after storeAt", x.octet(5, FROM), 0);
        x.loadAt(0, 1);
        due("FROM after loadAt", x.register(0, FROM), 0);
        x.load(0, 4);
        x.rule(AND, 0, 0, 2);
        due("FROM after and with 0", x.register(0, FROM), 0);
        x.load(0, 4);
        x.load(3, 4);
        x.undo();
        due("FROM after undo", x.register(3, FROM), 0);
    }

    private static void allIsNothingAtFirst() {
        dueAsAtFirst(new BitShadows());
    }

    private static void dueAsAtFirst(BitShadows x) {
        for (int r = 0; r < 8; r++) {
            dueRegister(x, r, 0, 0, 0);
        }
        for (int o = 0; o < 32; o++) {
            dueOctet(x, o, 0, 0, 0);
            due("DEAD", x.octet(o, 3), 0);
            due("GROUND over it", x.octet(o, 4), NONE);
        }
        for (int what = 0; what <= UNDOABLE; what++) {
            due("told(" + what + ")", x.told(what), what == LOT ? 1 : 0);
        }
        due("MARK", x.mark(), 0);
    }

    private static void lotByOneStep() {
        int[] ahead = {1, 2, 127773, 127774, 65536, 1073741824, 2147483645, 2147483646};
        int[] then = {16807, 33614, 2147480811, 13971, 1101463552, 1073750227, 2147450033, 2147466840};
        for (int i = 0; i < ahead.length; i++) {
            BitShadows x = new BitShadows();
            x.lot(ahead[i]);
            x.let(0, 1);
            due("X after " + ahead[i], x.told(LOT), then[i]);
            due("VALUE by it", x.octet(0, VALUE), then[i] % 256);
        }
    }

    /** How many times X is wanted for one that is done BY LOTS, X being ahead of it. */
    private static int wantedByOne(long lot) {
        int[] times = {5, 3, 3, 2};
        return times[(int) (wantedAfter(lot, 1) % 4)];
    }

    private static int wantedByDrift(long lot, int n) {
        int times = 0;
        for (int i = 0; i < n; i++) {
            int one = wantedByOne(lot);
            lot = wantedAfter(lot, one);
            times += one;
        }
        return times;
    }

    /** The ten thousandth X, 1 at first, is a number that is known of this lot elsewhere. */
    private static void lotByTenThousandSteps() {
        BitShadows x = new BitShadows();
        int left = 10000;
        for (int calls = 0; calls < 200 && left > 8; calls++) {
            int n = left > 250 ? 40 : 1;
            left -= wantedByDrift(x.told(LOT), n);
            x.drift(n);
        }
        x.let(0, left);
        due("the ten thousandth X", x.told(LOT), 1043618065);
    }

    private static void twelveGroundsAtMost() {
        BitShadows x = new BitShadows();
        due("none at first", x.told(GROUNDS), 0);
        for (int g = 0; g < 12; g++) {
            due("one more", x.let(31 - g, 1), g);
            due("GROUNDS", x.told(GROUNDS), g + 1);
        }
        long lot = x.told(LOT);
        due("the thirteenth", x.let(0, 1), FULL);
        due("GROUNDS then", x.told(GROUNDS), 12);
        due("X then", x.told(LOT), lot);
        due("OCTET 0 then", x.octet(0, SHADOW), 0);
        x.giveBack(11);
        due("GROUNDS, one GIVEN BACK", x.told(GROUNDS), 12);
        due("the thirteenth, one GIVEN BACK", x.let(20, 1), FULL);
        x.start();
        due("none after start", x.told(GROUNDS), 0);
        due("the first after start", x.let(20, 1), 0);
    }

    private static void dueGround(int a, int n) {
        BitShadows x = new BitShadows();
        due("let(" + a + ", " + n + ")", x.let(a, n), 0);
        for (int o = 0; o < 32; o++) {
            boolean inside = o >= a && o < a + n;
            dueOctet(x, o, inside ? (int) (wantedAfter(1, o - a + 1) % 256) : 0, inside ? 255 : 0, inside ? 1 : 0);
            due("GROUND over OCTET " + o, x.octet(o, 4), inside ? 0 : NONE);
        }
        due("A", x.ground(0, 0), a);
        due("N", x.ground(0, 1), n);
        due("X", x.told(LOT), wantedAfter(1, n));
        x.giveBack(0);
        for (int o = 0; o < 32; o++) {
            due("DEAD of OCTET " + o, x.octet(o, 3), o >= a && o < a + n ? 1 : 0);
        }
        due("DEAD", x.told(DEAD), n);
    }

    private static void groundsFromAOn() {
        dueGround(0, 1);
        dueGround(0, 8);
        dueGround(5, 3);
        dueGround(24, 8);
        dueGround(31, 1);
    }

    private static void groundsSideBySide() {
        BitShadows x = new BitShadows();
        for (int g = 0; g < 4; g++) {
            due("let, side by side", x.let(8 * g, 8), g);
        }
        for (int o = 0; o < 32; o++) {
            due("GROUND over OCTET " + o, x.octet(o, 4), o / 8);
            due("FROM of OCTET " + o, x.octet(o, FROM), 1 << o / 8);
        }
    }

    private static void letIsFromOneAlone() {
        BitShadows x = twoGrounds();
        x.load(0, 0);
        x.forget(0, 1, 1);
        x.store(0, 8);
        due("FROM ahead of it", x.octet(8, FROM), 3);
        x.let(8, 1);
        dueOctet(x, 8, (int) (wantedAfter(1, 9) % 256), 255, 4);
        x.giveBack(2);
        x.let(8, 1);
        dueOctet(x, 8, (int) (wantedAfter(1, 10) % 256), 255, 8);
    }

    private static void deadUntilLetAnew() {
        BitShadows x = twoGrounds();
        x.giveBack(0);
        x.giveBack(1);
        due("DEAD", x.told(DEAD), 8);
        due("let over the midst", x.let(3, 2), 2);
        for (int o = 0; o < 8; o++) {
            due("DEAD of OCTET " + o, x.octet(o, 3), o == 3 || o == 4 ? 0 : 1);
            due("GROUND over OCTET " + o, x.octet(o, 4), o == 3 || o == 4 ? 2 : o / 4);
        }
        x.giveBack(2);
        due("DEAD again", x.told(DEAD), 8);
    }

    private static void deadUntilStored() {
        BitShadows x = twoGrounds();
        x.giveBack(0);
        x.store(0, 0);
        due("DEAD after store", x.told(DEAD), 3);
        x.set(1, 3);
        x.storeAt(0, 1);
        due("DEAD after storeAt", x.told(DEAD), 2);
        for (int o = 0; o < 4; o++) {
            due("DEAD of OCTET " + o, x.octet(o, 3), o == 1 || o == 2 ? 1 : 0);
        }
        x.load(2, 0);
        x.load(2, 3);
        due("CRIES of what is no more DEAD", x.told(CRIES), 0);
        x.load(2, 1);
        due("CRIES of what is DEAD still", x.told(CRIES), 1);
        x.load(2, 1);
        due("DEAD is not ended by load", x.told(DEAD), 2);
    }

    private static void allOctetsDead() {
        BitShadows x = new BitShadows();
        for (int g = 0; g < 4; g++) {
            x.let(8 * g, 8);
        }
        due("none is DEAD", x.told(DEAD), 0);
        for (int g = 3; g >= 0; g--) {
            due("giveBack", x.giveBack(g), g);
        }
        due("all are DEAD", x.told(DEAD), 32);
        for (int o = 0; o < 32; o++) {
            x.load(0, o);
        }
        due("all cry", x.told(CRIES), 32);
        x.store(0, 31);
        due("but one", x.told(DEAD), 31);
        due("no more DEAD", x.octet(31, 3), 0);
        due("DEAD beside it", x.octet(30, 3), 1);
    }

    private static void twentyCriesAreKept() {
        BitShadows x = twoGrounds();
        x.load(0, 0);
        for (int k = 0; k < 40; k++) {
            due("CRY " + k + " ahead of it", x.cry(k, 0), UNKNOWN);
            x.decide(0);
            due("CRIES counted", x.told(CRIES), k + 1);
            due("CRIES kept", x.told(CRIES_KEPT), Math.min(k + 1, 20));
            due("TICK of CRY " + k, x.cry(k, 1), k < 20 ? k + 3 : UNKNOWN);
        }
        due("the first stays", x.cry(0, 1), 3);
        due("the last that is kept", x.cry(19, 1), 22);
    }

    /** One call with two CRIES where one more is kept: the place's, which is ahead. */
    private static void lastCryOfTwo() {
        BitShadows x = twoGrounds();
        x.giveBack(1);
        x.load(0, 0);
        for (int k = 0; k < 19; k++) {
            x.decide(0);
        }
        x.set(1, 5);
        x.forget(1, 1, 0);
        int tick = x.told(TICKS);
        x.loadAt(2, 1);
        due("CRIES counted", x.told(CRIES), 21);
        due("CRIES kept", x.told(CRIES_KEPT), 20);
        dueCry(x, 19, 1, tick, 1);
        due("GROUND 1 is named by none that is kept", x.ground(1, 3), 0);
        due("GROUND 0 is named by all", x.ground(0, 3), 20);
    }

    private static void deadNamesTheLastGroundAlone() {
        BitShadows x = twoGrounds();
        x.load(0, 4);
        x.store(0, 0);
        x.set(1, 9);
        x.store(1, 1);
        x.giveBack(0);
        x.load(2, 0);
        dueCry(x, 0, 2, 7, 1);
        due("FROM of what came", x.register(2, FROM), 2);
        x.load(2, 1);
        dueCry(x, 1, 2, 8, 1);
        dueRegister(x, 2, 9, 0, 0);
        x.let(2, 2);
        x.giveBack(2);
        x.load(2, 3);
        dueCry(x, 2, 2, 11, 4);
        x.load(2, 1);
        dueCry(x, 3, 2, 12, 1);
    }

    private static void criesNameAllItHungOn() {
        BitShadows x = twelveGrounds();
        x.forget(0, 1, 0);
        x.forget(0, 128, 11);
        x.decide(0);
        dueCry(x, 0, 0, 14, 2049);
        x.loadAt(1, 0);
        dueCry(x, 1, 1, 15, 2049);
        due("its TICK is the call's", x.ring(0, 1), 15);
    }

    private static void eachKindIsATick() {
        BitShadows x = new BitShadows();
        due("TICKS at first", x.told(TICKS), 0);
        x.let(0, 2);
        x.set(0, 1);
        x.copy(1, 0);
        x.load(1, 0);
        x.store(1, 3);
        x.rule(OR, 2, 1, 0);
        x.decide(2);
        x.giveBack(0);
        x.part(3, 3, 0, 4);
        x.loadAt(4, 0);
        x.storeAt(4, 0);
        x.forget(5, 3, 0);
        int[] kinds = {6, 0, 1, 2, 3, 4, 5, 7, 8, 9, 10, 11};
        due("TICKS", x.told(TICKS), kinds.length);
        for (int i = 0; i < kinds.length; i++) {
            due("which, TICK " + i, x.ring(kinds.length - 1 - i, 0), kinds[i]);
            due("TICK " + i, x.ring(kinds.length - 1 - i, 1), i);
        }
    }

    private static void theOthersAreNoTicks() {
        BitShadows x = twoGrounds();
        x.set(0, 5);
        long mark = x.mark();
        x.lot(77);
        x.undo();
        x.keep(0);
        x.goBack(0);
        x.told(0);
        x.register(0, 0);
        x.octet(0, 0);
        x.ground(0, 0);
        x.cry(0, 0);
        x.ring(0, 0);
        x.shadow(0, 1, 2, 3, 4);
        x.exact(0, 1, 2, 3, 4);
        due("TICKS", x.told(TICKS), 3);
        due("MARK", x.mark(), mark);
        due("the latest in THE RING", x.ring(0, 1), 2);
        due("entries of THE RING", x.told(RING), 3);
    }

    private static void refusedAreNoTicks() {
        BitShadows x = twoGrounds();
        x.set(8, 0);
        x.copy(0, 8);
        x.load(0, 32);
        x.store(0, 32);
        x.rule(7, 0, 0, 0);
        x.decide(8);
        x.let(0, 1);
        x.giveBack(2);
        x.part(0, 0, 0, 9);
        x.loadAt(0, 8);
        x.storeAt(0, 8);
        x.forget(0, 0, 0);
        x.drift(0);
        x.drift(41);
        due("TICKS", x.told(TICKS), 2);
        due("entries of THE RING", x.told(RING), 2);
        due("MARK", x.mark(), 1);
        x.set(0, 3);
        due("the next TICK", x.ring(0, 1), 2);
    }

    // ---- terms 2

    private static void dueValue(int sort, int a, int b, int value) {
        BitShadows x = new BitShadows();
        x.set(0, a);
        x.set(1, b);
        due("SHADOW", x.rule(sort, 2, 0, 1), 0);
        due("VALUE of sort " + sort + " of " + a + ", " + b, x.register(2, VALUE), value);
    }

    private static void sumsAreLeftOver() {
        dueValue(SUM, 255, 0, 255);
        dueValue(SUM, 255, 1, 0);
        dueValue(SUM, 128, 128, 0);
        dueValue(SUM, 255, 255, 254);
        dueValue(SUM, 0, 0, 0);
    }

    private static void differencesAreLeftOver() {
        dueValue(DIFFERENCE, 0, 0, 0);
        dueValue(DIFFERENCE, 0, 1, 255);
        dueValue(DIFFERENCE, 0, 255, 1);
        dueValue(DIFFERENCE, 255, 255, 0);
        dueValue(DIFFERENCE, 127, 128, 255);
        dueValue(DIFFERENCE, 255, 0, 255);
    }

    private static void shiftsHaveEightBits() {
        dueValue(LEFT, 255, 0, 255);
        dueValue(LEFT, 255, 1, 254);
        dueValue(LEFT, 255, 7, 128);
        dueValue(LEFT, 128, 1, 0);
        dueValue(RIGHT, 255, 0, 255);
        dueValue(RIGHT, 255, 1, 127);
        dueValue(RIGHT, 255, 7, 1);
        dueValue(RIGHT, 1, 1, 0);
    }

    private static void shiftsByThreeBits() {
        dueValue(LEFT, 5, 8, 5);
        dueValue(LEFT, 5, 9, 10);
        dueValue(LEFT, 5, 255, 128);
        dueValue(LEFT, 5, 248, 5);
        dueValue(RIGHT, 160, 8, 160);
        dueValue(RIGHT, 160, 16 + 5, 5);
        dueValue(RIGHT, 160, 255, 1);
        dueValue(RIGHT, 160, 32, 160);
    }

    private static void plainValues() {
        dueValue(AND, 204, 170, 136);
        dueValue(OR, 204, 170, 238);
        dueValue(EITHER, 204, 170, 102);
        dueValue(AND, 255, 255, 255);
        dueValue(OR, 0, 0, 0);
        dueValue(EITHER, 255, 255, 0);
    }

    private static void dueShadow(int sort, int a, int s, int b, int t, int shadow) {
        due("shadow(" + sort + ", " + a + ", " + s + ", " + b + ", " + t + ")", new BitShadows().shadow(sort, a, s, b, t), shadow);
    }

    private static void andKnowsByNought() {
        dueShadow(AND, 0, 0, 255, 255, 0);
        dueShadow(AND, 255, 0, 0, 255, 255);
        dueShadow(AND, 255, 255, 0, 0, 0);
        dueShadow(AND, 0, 255, 255, 0, 255);
        dueShadow(AND, 0, 255, 0, 255, 255);
        dueShadow(AND, 0, 1, 128, 0, 0);
        dueShadow(AND, 254, 1, 0, 255, 255);
    }

    private static void orKnowsByOne() {
        dueShadow(OR, 255, 0, 0, 255, 0);
        dueShadow(OR, 0, 0, 255, 255, 255);
        dueShadow(OR, 0, 255, 255, 0, 0);
        dueShadow(OR, 255, 255, 0, 0, 255);
        dueShadow(OR, 255, 255, 255, 255, 255);
        dueShadow(OR, 1, 128, 0, 1, 128);
    }

    private static void eitherKnowsByBoth() {
        dueShadow(EITHER, 0, 0, 255, 0, 0);
        dueShadow(EITHER, 0, 240, 255, 15, 255);
        dueShadow(EITHER, 255, 1, 255, 1, 1);
    }

    private static void sumsByBounds() {
        dueShadow(SUM, 0, 0, 0, 0, 0);
        dueShadow(SUM, 255, 0, 255, 0, 0);
        dueShadow(SUM, 0, 1, 255, 0, 255);
        dueShadow(SUM, 0, 1, 254, 0, 1);
        dueShadow(SUM, 0, 128, 128, 0, 128);
        dueShadow(SUM, 0, 255, 0, 255, 255);
        dueShadow(SUM, 0, 1, 0, 1, 3);
        dueShadow(SUM, 1, 1, 1, 1, 3);
        dueShadow(SUM, 0, 128, 0, 128, 128);
        // The bounds are alike in bit 1, which is unknown all the same.
        dueShadow(SUM, 0, 3, 1, 0, 7);
        dueShadow(SUM, 1, 0, 0, 3, 7);
    }

    private static void differencesByBounds() {
        dueShadow(DIFFERENCE, 0, 0, 0, 0, 0);
        dueShadow(DIFFERENCE, 0, 0, 255, 0, 0);
        dueShadow(DIFFERENCE, 0, 0, 0, 1, 255);
        dueShadow(DIFFERENCE, 255, 0, 0, 1, 1);
        dueShadow(DIFFERENCE, 0, 1, 1, 0, 255);
        dueShadow(DIFFERENCE, 0, 0, 0, 128, 128);
        dueShadow(DIFFERENCE, 0, 255, 0, 255, 255);
        dueShadow(DIFFERENCE, 128, 128, 0, 1, 255);
        dueShadow(DIFFERENCE, 0, 3, 1, 0, 255);
        dueShadow(DIFFERENCE, 4, 0, 0, 3, 7);
    }

    private static void shiftsByWhatIsNotKnown() {
        for (int sort = LEFT; sort <= RIGHT; sort++) {
            dueShadow(sort, 0, 0, 0, 1, 255);
            dueShadow(sort, 0, 0, 0, 2, 255);
            dueShadow(sort, 0, 0, 0, 4, 255);
            dueShadow(sort, 0, 0, 0, 255, 255);
            dueShadow(sort, 0, 0, 0, 8, 0);
            dueShadow(sort, 0, 0, 0, 248, 0);
            dueShadow(sort, 0, 255, 8, 0, 255);
        }
        dueShadow(LEFT, 0, 255, 7, 248, 128);
        dueShadow(RIGHT, 0, 255, 7, 248, 1);
        dueShadow(LEFT, 0, 128, 1, 0, 0);
        dueShadow(RIGHT, 0, 1, 1, 0, 0);
    }

    private static void dueFrom(int sort, int[] a, int[] b, int shadow, int from) {
        BitShadows x = twoGrounds();
        give(x, 0, a[0], a[1], 0);
        give(x, 1, b[0], b[1], 1);
        due("SHADOW of sort " + sort, x.rule(sort, 2, 0, 1), shadow);
        due("FROM of sort " + sort, x.register(2, FROM), from);
    }

    private static void fromOfBoth() {
        dueFrom(AND, new int[] {0, 255}, new int[] {0, 0}, 0, 0);
        dueFrom(AND, new int[] {0, 15}, new int[] {0, 240}, 0, 0);
        dueFrom(AND, new int[] {0, 15}, new int[] {1, 240}, 1, 3);
        dueFrom(OR, new int[] {255, 0}, new int[] {0, 255}, 0, 0);
        dueFrom(OR, new int[] {0, 0}, new int[] {0, 1}, 1, 2);
        dueFrom(EITHER, new int[] {0, 1}, new int[] {0, 0}, 1, 1);
        dueFrom(SUM, new int[] {0, 1}, new int[] {0, 2}, 3, 3);
        dueFrom(LEFT, new int[] {0, 128}, new int[] {1, 0}, 0, 0);
        dueFrom(LEFT, new int[] {0, 1}, new int[] {1, 128}, 2, 3);
        dueFrom(RIGHT, new int[] {0, 0}, new int[] {0, 1}, 255, 2);
        dueFrom(RIGHT, new int[] {0, 0}, new int[] {0, 8}, 0, 0);
    }

    private static void dueExact(int sort, int[] a, int[] b, int exact) {
        due("exact of sort " + sort, new BitShadows().exact(sort, a[0], a[1], b[0], b[1]), exact);
    }

    private static void exactOfAllAndOfNothing() {
        for (int sort = AND; sort <= RIGHT; sort++) {
            dueExact(sort, new int[] {255, 0}, new int[] {255, 0}, 0);
            dueExact(sort, new int[] {0, 255}, new int[] {0, 255}, 255);
            dueExact(sort, new int[] {255, 255}, new int[] {255, 255}, 255);
        }
        dueExact(LEFT, new int[] {0, 0}, new int[] {0, 255}, 0);
        dueExact(RIGHT, new int[] {0, 0}, new int[] {255, 7}, 0);
        dueExact(LEFT, new int[] {255, 0}, new int[] {0, 1}, 1);
        dueExact(RIGHT, new int[] {255, 0}, new int[] {0, 1}, 128);
        dueExact(LEFT, new int[] {255, 0}, new int[] {7, 7}, 127);
        dueExact(LEFT, new int[] {128, 0}, new int[] {0, 6}, 128);
        dueExact(LEFT, new int[] {0, 1}, new int[] {7, 0}, 128);
        dueExact(LEFT, new int[] {0, 1}, new int[] {0, 248}, 1);
    }

    /** The same REGISTER twice, and yet each unknown bit for itself: either and difference are not 0. */
    private static void exactEachForItself() {
        BitShadows x = twoGrounds();
        x.load(0, 0);
        due("either", x.rule(EITHER, 1, 0, 0), 255);
        due("difference", x.rule(DIFFERENCE, 1, 0, 0), 255);
        due("SLACK ALL", x.told(SLACK), 0);
        dueRegister(x, 1, 0, 255, 1);
    }

    private static void slackOfShifts() {
        BitShadows x = twoGrounds();
        x.load(0, 0);
        x.rule(LEFT, 1, 2, 0);
        due("SLACK of 0, all bits", x.told(SLACK), 8);
        x.rule(RIGHT, 1, 0, 2);
        due("no SLACK by what is known", x.told(SLACK), 8);
        x.set(2, 1);
        x.rule(LEFT, 1, 2, 0);
        due("no SLACK of 1 by 0 .. 7", x.told(SLACK), 8);
        x.rule(RIGHT, 1, 2, 0);
        due("SLACK of 1, seven bits", x.told(SLACK), 15);
        x.rule(LEFT, 9, 2, 0);
        due("a refusal has none", x.told(SLACK), 15);
        x.shadow(LEFT, 0, 0, 0, 7);
        x.exact(LEFT, 0, 0, 0, 7);
        due("what is told has none", x.told(SLACK), 15);
        x.undo();
        due("SLACK stays", x.told(SLACK), 15);
    }

    // ---- terms 3

    private static void dueDecision(int value, int shadow, int decision, int known) {
        BitShadows x = twoGrounds();
        give(x, 0, value, shadow, 1);
        due("known", x.register(0, 6), known);
        due("DECISION", x.decide(0), decision);
        due("CRIES", x.told(CRIES), 1 - known);
        if (known == 0) {
            dueCry(x, 0, 0, 4, 2);
        }
    }

    private static void decisions() {
        dueDecision(0, 0, 0, 1);
        dueDecision(1, 0, 1, 1);
        dueDecision(128, 0, 1, 1);
        dueDecision(255, 0, 1, 1);
        dueDecision(0, 1, 0, 0);
        dueDecision(0, 255, 0, 0);
        dueDecision(255, 255, 1, 0);
        dueDecision(1, 1, 1, 0);
        dueDecision(128, 128, 1, 0);
        dueDecision(1, 254, 1, 1);
        dueDecision(128, 127, 1, 1);
        dueDecision(254, 254, 1, 0);
        dueDecision(3, 1, 1, 1);
    }

    private static void duePlace(int value, int shadow, int place, int cries) {
        BitShadows x = twoGrounds();
        give(x, 0, value, shadow, 1);
        x.set(1, 99);
        x.storeAt(1, 0);
        due("CRIES of storeAt", x.told(CRIES), cries);
        due("VALUE at " + place, x.octet(place, VALUE), 99);
        x.loadAt(2, 0);
        due("CRIES of loadAt too", x.told(CRIES), 2 * cries);
        dueRegister(x, 2, 99, 0, 0);
    }

    private static void places() {
        duePlace(0, 0, 0, 0);
        duePlace(31, 0, 31, 0);
        duePlace(32, 0, 0, 0);
        duePlace(63, 0, 31, 0);
        duePlace(255, 0, 31, 0);
        duePlace(255, 224, 31, 0);
        duePlace(9, 32, 9, 0);
        duePlace(9, 16, 9, 1);
        duePlace(9, 1, 9, 1);
        duePlace(255, 255, 31, 1);
        duePlace(8, 8, 8, 1);
    }

    private static void deadOctetsRead() {
        BitShadows x = twoGrounds();
        x.giveBack(0);
        x.set(0, 3);
        x.load(1, 0);
        due("CRIES by load", x.told(CRIES), 1);
        x.part(1, 1, 0, 1);
        due("CRIES by part", x.told(CRIES), 2);
        x.loadAt(1, 0);
        due("CRIES by loadAt", x.told(CRIES), 3);
        for (int k = 0; k < 3; k++) {
            dueCry(x, k, 2, k + 4, 1);
        }
        x.octet(0, 0);
        due("CRIES by what is told", x.told(CRIES), 3);
        x.storeAt(0, 0);
        x.store(0, 2);
        due("CRIES by stores", x.told(CRIES), 3);
        x.load(1, 3);
        due("CRIES after the store", x.told(CRIES), 3);
    }

    private static void placeAheadOfDead() {
        BitShadows x = twoGrounds();
        x.giveBack(0);
        x.set(0, 2);
        x.forget(0, 16, 1);
        x.loadAt(0, 0);
        due("CRIES", x.told(CRIES), 2);
        dueCry(x, 0, 1, 5, 2);
        dueCry(x, 1, 2, 5, 1);
        due("one TICK", x.told(TICKS), 6);
        dueRegister(x, 0, x.octet(2, VALUE), 255, 1);
    }

    private static void sixteenInTheRing() {
        BitShadows x = new BitShadows();
        due("entries at first", x.told(RING), 0);
        for (int i = 0; i < 40; i++) {
            int last = Math.min(i, 16) - 1;
            due("beyond the last", x.ring(last + 1, 1), NONE);
            x.set(1, i + 1);
            due("entries", x.told(RING), Math.min(i + 1, 16));
            due("the latest", x.ring(0, 1), i);
            due("what it told", x.ring(0, 2), i);
            due("the oldest", x.ring(Math.min(i, 15), 1), Math.max(0, i - 15));
            due("one that is lost", x.ring(16, 1), NONE);
        }
        x.start();
        due("entries after start", x.told(RING), 0);
        due("no entry after start", x.ring(0, 0), NONE);
    }

    private static void ringByLots() {
        BitShadows x = new BitShadows();
        x.drift(40);
        due("entries", x.told(RING), 16);
        for (int i = 0; i < 16; i++) {
            due("TICK", x.ring(i, 1), 39 - i);
            int kind = x.ring(i, 0);
            due("which: load, store, rule, decide", kind >= 2 && kind <= 5 ? 1 : 0, 1);
        }
    }

    private static void markLeftOver() {
        BitShadows x = twoGrounds();
        BigInteger mark = BigInteger.ONE;
        boolean below = false;
        for (int i = 0; i < 100; i++) {
            x.load(0, i % 8);
            mark = mark.multiply(BigInteger.valueOf(31)).add(BigInteger.valueOf(255));
            due("MARK", x.mark(), mark.longValue());
            below = below || x.mark() < 0;
        }
        due("MARK was below 0", below ? 1 : 0, 1);
        x.start();
        due("MARK after start", x.mark(), 0);
    }

    private static void slackNotByLots() {
        int most = 0;
        for (int v = 1; v < 30; v++) {
            BitShadows x = new BitShadows();
            for (int g = 0; g < 4; g++) {
                x.let(8 * g, 8);
            }
            x.load(0, 0);
            x.rule(LEFT, 1, 1, 0);
            x.lot(v * 7001);
            x.drift(40);
            x.drift(40);
            due("SLACK ALL", x.told(SLACK), 8);
            most = Math.max(most, x.told(REGISTER_BITS));
        }
        due("REGISTERS were unknown by lots", most > 32 ? 1 : 0, 1);
    }

    private static void thirtyTwoChanges() {
        for (int changes = 31; changes <= 34; changes++) {
            BitShadows x = new BitShadows();
            for (int i = 1; i <= changes; i++) {
                x.set(0, i);
            }
            int kept = Math.min(changes, 32);
            due("can be undone", x.told(UNDOABLE), kept);
            for (int left = kept - 1; left >= 0; left--) {
                due("undo", x.undo(), left);
                due("VALUE", x.register(0, VALUE), changes - kept + left);
            }
            due("no more", x.undo(), NOT);
            due("can be undone then", x.told(UNDOABLE), 0);
            due("TICKS stay", x.told(TICKS), changes);
        }
    }

    /** Undone and done by turns, so that the row of changes is gone around more than once. */
    private static void changesGoRound() {
        BitShadows x = new BitShadows();
        for (int i = 0; i < 60; i++) {
            x.set(0, i);
            x.set(1, i);
            x.set(1, 100 + i);
            x.undo();
            due("VALUE", x.register(1, VALUE), i);
        }
        due("can be undone", x.told(UNDOABLE), 31);
        for (int left = 30; left >= 0; left--) {
            due("undo", x.undo(), left);
        }
        due("no more", x.undo(), NOT);
        dueRegister(x, 0, 44, 0, 0);
        dueRegister(x, 1, 43, 0, 0);
    }

    private static void changesOfOctets() {
        BitShadows x = twoGrounds();
        int value = x.octet(0, VALUE);
        x.set(0, 6);
        for (int i = 0; i < 33; i++) {
            x.store(0, 31 - i % 32);
        }
        due("can be undone", x.told(UNDOABLE), 32);
        for (int i = 0; i < 32; i++) {
            x.undo();
        }
        dueOctet(x, 31, 6, 0, 0);
        dueOctet(x, 0, value, 255, 1);
        dueOctet(x, 30, 0, 0, 0);
        dueRegister(x, 0, 6, 0, 0);
        due("no more", x.undo(), NOT);
    }

    private static void changesByLots() {
        BitShadows x = new BitShadows();
        for (int n = 0; n < 60; n++) {
            int ahead = x.told(UNDOABLE);
            x.drift(1);
            int change = x.ring(0, 0) == 5 ? 0 : 1;
            due("can be undone after one by lots", x.told(UNDOABLE), Math.min(32, ahead + change));
        }
        x.drift(40);
        due("32 at most", x.told(UNDOABLE), 32);
        due("undo", x.undo(), 31);
    }

    private static void letAndGivenBackAreNoChanges() {
        BitShadows x = new BitShadows();
        x.set(0, 4);
        x.let(0, 8);
        x.giveBack(0);
        x.decide(0);
        due("can be undone", x.told(UNDOABLE), 1);
        due("undo", x.undo(), 0);
        due("LET is not undone", x.octet(0, SHADOW), 255);
        due("GIVEN BACK is not undone", x.octet(0, 3), 1);
        due("set is undone", x.register(0, VALUE), 0);
    }

    private static void undoLeavesTheRest() {
        BitShadows x = twoGrounds();
        int value = x.octet(2, VALUE);
        x.giveBack(0);
        x.load(0, 1);
        x.store(1, 2);
        long mark = x.mark();
        due("undo of store", x.undo(), 1);
        dueOctet(x, 2, value, 255, 1);
        due("no more DEAD", x.octet(2, 3), 0);
        due("DEAD still", x.octet(1, 3), 1);
        due("undo of load", x.undo(), 0);
        dueRegister(x, 0, 0, 0, 0);
        due("TICKS", x.told(TICKS), 5);
        due("CRIES", x.told(CRIES), 1);
        due("MARK", x.mark(), mark);
        due("entries of THE RING", x.told(RING), 5);
        due("X", x.told(LOT), wantedAfter(1, 8));
    }

    private static void imagesOfAll() {
        BitShadows x = twoGrounds();
        x.giveBack(1);
        give(x, 7, 255, 129, 1);
        x.store(7, 31);
        x.keep(0);
        x.start();
        due("gone with start", x.goBack(0), NOT);
        x.let(0, 8);
        x.giveBack(0);
        x.load(7, 0);
        x.store(7, 31);
        int value = x.register(7, VALUE);
        x.keep(1);
        x.set(7, 1);
        x.store(7, 31);
        x.store(7, 0);
        x.let(1, 7);
        due("DEAD ahead of it", x.told(DEAD), 0);
        due("goBack", x.goBack(1), 1);
        dueRegister(x, 7, value, 255, 1);
        dueOctet(x, 31, value, 255, 1);
        dueOctet(x, 0, value, 255, 1);
        due("DEAD", x.told(DEAD), 8);
        due("the other is not kept", x.goBack(0), NOT);
    }

    private static void imagesAreCopies() {
        BitShadows x = new BitShadows();
        x.set(0, 1);
        x.keep(0);
        x.keep(1);
        x.set(0, 2);
        due("keep anew", x.keep(1), 1);
        x.set(0, 3);
        due("goBack(0)", x.goBack(0), 1);
        x.set(0, 4);
        due("goBack(0) again", x.goBack(0), 1);
        due("as IMAGE 0 kept it", x.register(0, VALUE), 1);
        due("goBack(1)", x.goBack(1), 1);
        due("as IMAGE 1 kept it", x.register(0, VALUE), 2);
        due("TICKS", x.told(TICKS), 4);
    }

    private static void nothingCanBeUndoneThen() {
        BitShadows x = new BitShadows();
        for (int i = 0; i < 40; i++) {
            x.set(0, i);
        }
        x.keep(0);
        due("after keep", x.told(UNDOABLE), 0);
        due("undo after keep", x.undo(), NOT);
        x.set(0, 50);
        due("one more", x.told(UNDOABLE), 1);
        x.goBack(0);
        due("after goBack", x.told(UNDOABLE), 0);
        due("undo after goBack", x.undo(), NOT);
        x.set(0, 60);
        due("undo of what came after", x.undo(), 0);
        due("VALUE", x.register(0, VALUE), 39);
        x.set(0, 70);
        x.keep(2);
        x.goBack(1);
        due("after refusals", x.told(UNDOABLE), 1);
    }

    // ---- promises

    private static void startTellsTicks() {
        BitShadows x = new BitShadows();
        due("start of what is new", x.start(), 0);
        x.drift(40);
        x.drift(1);
        x.set(8, 8);
        due("TICKS there were", x.start(), 41);
        due("start again", x.start(), 0);
        x.keep(0);
        x.lot(5);
        due("keep and lot are no TICKS", x.start(), 0);
        due("X", x.told(LOT), 1);
        due("IMAGE", x.goBack(0), NOT);
    }

    /** More than is kept of all that is counted, in REGISTERS, OCTETS and IMAGES; then start. */
    private static void startFromTheFullest() {
        BitShadows x = twelveGrounds();
        x.giveBack(2);
        for (int r = 0; r < 8; r++) {
            x.load(r, r);
            x.store(r, 31 - r);
        }
        x.keep(0);
        x.keep(1);
        for (int i = 0; i < 33; i++) {
            x.decide(i % 8);
            x.rule(LEFT, 7, 7, 0);
        }
        x.set(6, 0);
        x.rule(LEFT, 6, 6, 0);
        due("SLACK there was", x.told(SLACK) >= 8 ? 1 : 0, 1);
        due("TICKS there were", x.start(), 13 + 16 + 66 + 2);
        dueAsAtFirst(x);
        due("ground(0, 0)", x.ground(0, 0), UNKNOWN);
        due("cry(0, 0)", x.cry(0, 0), UNKNOWN);
        due("ring(0, 0)", x.ring(0, 0), NONE);
        due("undo", x.undo(), NOT);
        due("goBack(0)", x.goBack(0), NOT);
        due("goBack(1)", x.goBack(1), NOT);
        for (int o = 0; o < 32; o++) {
            x.load(0, o);
        }
        due("none is DEAD", x.told(CRIES), 0);
        due("the first GROUND", x.let(0, 1), 0);
        due("VALUE by the first X", x.octet(0, VALUE), 16807 % 256);
    }

    private static void setTellsTheValue() {
        BitShadows x = twoGrounds();
        x.load(0, 0);
        due("of what was unknown", x.set(0, 255), x.octet(0, VALUE));
        due("of the greatest", x.set(0, 0), 255);
        due("of the least", x.set(0, 0), 0);
        dueRegister(x, 0, 0, 0, 0);
    }

    private static void forgetBits() {
        BitShadows x = twelveGrounds();
        x.set(0, 170);
        due("the least", x.forget(0, 1, 0), 1);
        due("the same again", x.forget(0, 1, 0), 1);
        due("the same FROM another", x.forget(0, 1, 11), 1);
        dueRegister(x, 0, 170, 1, 2049);
        due("one more", x.forget(0, 128, 5), 129);
        dueRegister(x, 0, 170, 129, 2081);
        due("all", x.forget(0, 255, 0), 255);
        dueRegister(x, 0, 170, 255, 2081);
        x.giveBack(7);
        due("FROM what was GIVEN BACK", x.forget(7, 64, 7), 64);
        dueRegister(x, 7, 0, 64, 128);
    }

    private static void copyOfItself() {
        BitShadows x = twoGrounds();
        give(x, 3, 200, 17, 1);
        due("copy of itself", x.copy(3, 3), 17);
        dueRegister(x, 3, 200, 17, 2);
        due("CRIES", x.told(CRIES), 0);
        due("TICKS", x.told(TICKS), 5);
        x.copy(7, 3);
        x.set(3, 0);
        dueRegister(x, 7, 200, 17, 2);
    }

    private static void duePart(int low, int n, int value, int shadow, int from) {
        BitShadows x = twoGrounds();
        give(x, 0, 0b10011001, 0b11000110, 1);
        x.store(0, 31);
        due("part, low " + low + ", n " + n, x.part(7, 31, low, n), shadow);
        dueRegister(x, 7, value, shadow, from);
        dueOctet(x, 31, 0b10011001, 0b11000110, 2);
    }

    private static void partsOfOctets() {
        duePart(0, 8, 0b10011001, 0b11000110, 2);
        duePart(0, 1, 1, 0, 0);
        duePart(1, 1, 0, 1, 2);
        duePart(7, 1, 1, 1, 2);
        duePart(1, 7, 0b1001100, 0b1100011, 2);
        duePart(0, 7, 0b0011001, 0b1000110, 2);
        duePart(3, 3, 0b011, 0, 0);
        duePart(4, 4, 0b1001, 0b1100, 2);
    }

    private static void partOfWhatIsKnown() {
        BitShadows x = twoGrounds();
        x.load(0, 0);
        due("part of a known OCTET", x.part(0, 31, 0, 8), 0);
        dueRegister(x, 0, 0, 0, 0);
        due("part of LET ground", x.part(0, 4, 7, 1), 1);
        dueRegister(x, 0, x.octet(4, VALUE) >> 7, 1, 2);
    }

    private static void loadAtItself() {
        BitShadows x = twoGrounds();
        x.set(0, 4);
        due("loadAt by itself", x.loadAt(0, 0), 255);
        dueRegister(x, 0, x.octet(4, VALUE), 255, 2);
        due("no CRY", x.told(CRIES), 0);
        int place = x.octet(4, VALUE) % 32;
        due("by what is unknown", x.loadAt(0, 0), x.octet(place, SHADOW));
        dueCry(x, 0, 1, 4, 2);
        dueRegister(x, 0, x.octet(place, VALUE), x.octet(place, SHADOW), x.octet(place, FROM));
    }

    private static void storeAtItself() {
        BitShadows x = twoGrounds();
        give(x, 0, 255, 31, 1);
        due("storeAt by itself", x.storeAt(0, 0), 31);
        dueOctet(x, 31, 255, 31, 2);
        dueRegister(x, 0, 255, 31, 2);
        dueCry(x, 0, 1, 4, 2);
    }

    private static void rulesOfTheSame() {
        BitShadows x = twoGrounds();
        give(x, 0, 0b1010, 0b0001, 1);
        due("sum of itself to itself", x.rule(SUM, 0, 0, 0), 3);
        dueRegister(x, 0, 0b10100, 3, 2);
        x.set(1, 3);
        due("left, to the first", x.rule(LEFT, 0, 0, 1), 24);
        dueRegister(x, 0, 0b10100000, 24, 2);
        due("difference, to the second", x.rule(DIFFERENCE, 1, 0, 1), x.shadow(DIFFERENCE, 160, 24, 3, 0));
        due("VALUE", x.register(1, VALUE), 157);
        x.set(2, 5);
        due("left by itself", x.rule(LEFT, 2, 2, 2), 0);
        dueRegister(x, 2, 160, 0, 0);
        due("and of itself", x.rule(AND, 7, 0, 0), 24);
        due("or of itself", x.rule(OR, 7, 0, 0), 24);
        due("either of itself", x.rule(EITHER, 7, 0, 0), 24);
        dueRegister(x, 7, 0, 24, 2);
    }

    private static void allGivenBackOneByOne() {
        BitShadows x = twelveGrounds();
        for (int g = 11; g >= 0; g--) {
            due("LET ahead of it", x.ground(g, 2), 1);
            due("giveBack", x.giveBack(g), g);
            due("GIVEN BACK", x.ground(g, 2), 0);
            due("A", x.ground(g, 0), g);
            due("N", x.ground(g, 1), 1);
            due("a SET of those LET", x.told(LET), (1 << g) - 1);
            due("giveBack again", x.giveBack(g), NOT);
        }
        due("GROUNDS", x.told(GROUNDS), 12);
        due("DEAD", x.told(DEAD), 12);
    }

    private static void driftsFromOneToForty() {
        BitShadows one = new BitShadows();
        due("drift(1)", one.drift(1), 0);
        due("TICKS of 1", one.told(TICKS), 1);
        BitShadows forty = new BitShadows();
        due("drift(40)", forty.drift(40), 0);
        due("TICKS of 40", forty.told(TICKS), 40);
        due("X of 40", forty.told(LOT), wantedAfter(1, wantedByDrift(1, 40)));
        for (int i = 1; i < 40; i++) {
            one.drift(1);
        }
        due("MARK, one by one", one.mark(), forty.mark());
        due("X, one by one", one.told(LOT), forty.told(LOT));
    }

    private static void driftTellsAllCries() {
        BitShadows x = twoGrounds();
        x.load(0, 0);
        for (int i = 0; i < 25; i++) {
            x.decide(0);
        }
        due("CRIES then", x.drift(1) >= 25 ? 1 : 0, 1);
        for (int i = 0; i < 20; i++) {
            due("CRIES then", x.drift(40), x.told(CRIES));
        }
        due("more than are kept", x.told(CRIES) > 25 ? 1 : 0, 1);
        due("kept", x.told(CRIES_KEPT), 20);
    }

    private static void lotTellsWhatItWas() {
        BitShadows x = new BitShadows();
        due("at first", x.lot(2147483646), 1);
        due("the greatest", x.lot(1), 2147483646);
        due("the least", x.lot(1), 1);
        x.let(0, 1);
        due("one wanted", x.lot(1000), 16807);
        due("X", x.told(LOT), 1000);
    }

    private static void toldAtMost() {
        BitShadows x = new BitShadows();
        for (int g = 0; g < 8; g++) {
            x.let(4 * g, 4);
        }
        due("all bits in OCTETS", x.told(OCTET_BITS), 256);
        due("none in REGISTERS", x.told(REGISTER_BITS), 0);
        for (int r = 0; r < 8; r++) {
            x.load(r, 4 * r);
        }
        due("all bits in REGISTERS", x.told(REGISTER_BITS), 64);
        for (int g = 0; g < 8; g++) {
            x.giveBack(g);
        }
        due("bits in what is DEAD are not known", x.told(OCTET_BITS), 256);
        due("all are DEAD", x.told(DEAD), 32);
        due("none is LET", x.told(LET), 0);
        x.set(7, 0);
        due("one REGISTER is known", x.told(REGISTER_BITS), 56);
        x.store(7, 31);
        due("one OCTET is known", x.told(OCTET_BITS), 248);
        x.part(0, 0, 0, 1);
        due("one bit of a REGISTER", x.told(REGISTER_BITS), 49);
    }

    private static void dueWays(int value, int shadow, int least, int most, int ways) {
        BitShadows x = twoGrounds();
        give(x, 0, value, shadow, 0);
        due("least", x.register(0, 3), least);
        due("most", x.register(0, 4), most);
        due("ways", x.register(0, 5), ways);
    }

    private static void waysOfRegisters() {
        dueWays(0, 0, 0, 0, 1);
        dueWays(255, 0, 255, 255, 1);
        dueWays(0, 1, 0, 1, 2);
        dueWays(128, 128, 0, 128, 2);
        dueWays(170, 127, 128, 255, 128);
        dueWays(255, 255, 0, 255, 256);
        dueWays(0, 255, 0, 255, 256);
        dueWays(85, 170, 85, 255, 16);
    }

    private static void lastGroundOverAnOctet() {
        BitShadows x = new BitShadows();
        due("at first", x.octet(0, 4), NONE);
        x.let(0, 1);
        due("LET", x.octet(0, 4), 0);
        due("beside it", x.octet(1, 4), NONE);
        x.giveBack(0);
        due("GIVEN BACK", x.octet(0, 4), 0);
        x.store(0, 0);
        due("stored", x.octet(0, 4), 0);
        for (int g = 1; g < 12; g++) {
            x.let(0, 1);
            x.giveBack(g);
            due("LET last", x.octet(0, 4), g);
        }
        x.start();
        due("after start", x.octet(0, 4), NONE);
    }

    private static void criesOfThoseKept() {
        BitShadows x = twoGrounds();
        x.load(0, 0);
        x.load(1, 4);
        for (int i = 0; i < 19; i++) {
            x.decide(0);
        }
        due("named by none", x.ground(1, 3), 0);
        x.decide(1);
        x.decide(1);
        x.decide(0);
        due("counted", x.told(CRIES), 22);
        due("named by 19 of those kept", x.ground(0, 3), 19);
        due("named by the last that is kept", x.ground(1, 3), 1);
    }

    // ---- all of them

    private static void whatItIs() {
        says("What it is: at most 512 calls: TICKS", BoundaryTests::ticksOf512Calls);
        says("What it is: at most 512 calls: BY LOTS", BoundaryTests::driftsOf512Calls);
        says("What it is: at most 512 calls: CRIES", BoundaryTests::criesOf512Calls);
        says("What it is: at most 512 calls: SLACK ALL", BoundaryTests::slackOf512Calls);
        says("What it is: at most 512 calls: MARK", BoundaryTests::markOf512Calls);
        says("What it is: at most 512 calls: the last one", BoundaryTests::otherLastCalls);
        says("The public face: NONE = -1 .. FULL = -1000000004", BoundaryTests::constants);
    }

    private static void termsOne() {
        says("Terms: What has a number has it from 0 on, as it comes", BoundaryTests::numbersAsTheyCome);
        says("Terms: A SET is a whole number, bit k for k", BoundaryTests::setsAreBits);
        says("Terms: A house made anew begins anew", BoundaryTests::housesAreApart);
        says("Terms 1: REGISTERS 0 .. 7, OCTETS 0 .. 31", BoundaryTests::cellsAreApart);
        says("Terms 1: REGISTERS 0 .. 7, the first and the last", BoundaryTests::firstAndLastRegister);
        says("Terms 1: OCTETS 0 .. 31, the first and the last", BoundaryTests::firstAndLastOctet);
        says("Terms 1: a VALUE (0 .. 255), a SHADOW (0 .. 255)", BoundaryTests::leastAndGreatestCells);
        says("Terms 1: FROM (0, where SHADOW is 0)", BoundaryTests::fromIsNothingWhereAllIsKnown);
        says("Terms 1: All 0 at first", BoundaryTests::allIsNothingAtFirst);
        says("Terms 1: what is left of (X times 16807) by 2147483647", BoundaryTests::lotByOneStep);
        says("Terms 1: X, 1 at first; wanted, it becomes", BoundaryTests::lotByTenThousandSteps);
        says("Terms 1: GROUNDS (12 at most; none at first)", BoundaryTests::twelveGroundsAtMost);
        says("Terms 1: OCTETS from A on, N of them; each OCTET, rising", BoundaryTests::groundsFromAOn);
        says("Promise 13: NOT: one of the OCTETS is of a GROUND that is LET", BoundaryTests::groundsSideBySide);
        says("Terms 1: FROM this GROUND alone", BoundaryTests::letIsFromOneAlone);
        says("Terms 1: DEAD, until a GROUND is LET over them anew", BoundaryTests::deadUntilLetAnew);
        says("Terms 1: or bits are stored there: no more DEAD, one by one", BoundaryTests::deadUntilStored);
        says("Terms 1: GIVEN BACK: its OCTETS are DEAD, all 32", BoundaryTests::allOctetsDead);
        says("Terms 1: CRIES (20 at most are kept, all are counted)", BoundaryTests::twentyCriesAreKept);
        says("Terms 1: CRIES, the twentieth of a call that cries twice", BoundaryTests::lastCryOfTwo);
        says("Terms 1: of a DEAD OCTET the GROUND that was LET last over it, alone", BoundaryTests::deadNamesTheLastGroundAlone);
        says("Terms 1: the GROUNDS (FROM of what it hung on)", BoundaryTests::criesNameAllItHungOn);
        says("Terms 1: TICKS: its TICK is the number ahead of that: 0 of the first", BoundaryTests::eachKindIsATick);
        says("Terms 1: TICKS: by each call of THE RING's kinds", BoundaryTests::theOthersAreNoTicks);
        says("Terms 1: TICKS: that is not refused", BoundaryTests::refusedAreNoTicks);
    }

    private static void termsTwo() {
        says("Terms 2: sum left over by 256", BoundaryTests::sumsAreLeftOver);
        says("Terms 2: difference left over by 256", BoundaryTests::differencesAreLeftOver);
        says("Terms 2: shifts of 8 bits, 0 comes in", BoundaryTests::shiftsHaveEightBits);
        says("Terms 2: by the lowest three bits of the second", BoundaryTests::shiftsByThreeBits);
        says("Terms 2: and, or, either: VALUE by VALUES", BoundaryTests::plainValues);
        says("Terms 2: and: but where a bit that is known is 0 (in either)", BoundaryTests::andKnowsByNought);
        says("Terms 2: or: but where a bit that is known is 1", BoundaryTests::orKnowsByOne);
        says("Terms 2: either: s or t", BoundaryTests::eitherKnowsByBoth);
        says("Terms 2: sum: bits in which the bounds differ (the lowest eight)", BoundaryTests::sumsByBounds);
        says("Terms 2: difference: bits in which the bounds differ (the lowest eight)", BoundaryTests::differencesByBounds);
        says("Terms 2: 255, if of the lowest three bits of t any is 1", BoundaryTests::shiftsByWhatIsNotKnown);
        says("Terms 2: FROM: if r is 0, 0; else of both", BoundaryTests::fromOfBoth);
        says("Terms 2: EXACT: not the same for all that could be", BoundaryTests::exactOfAllAndOfNothing);
        says("Terms 2: EXACT: each for itself", BoundaryTests::exactEachForItself);
        says("Terms 2: SLACK: how many bits of r are not EXACT", BoundaryTests::slackOfShifts);
    }

    private static void termsThree() {
        says("Terms 3: it is known, if a bit that is known is 1, or SHADOW is 0", BoundaryTests::decisions);
        says("Terms 3: the lowest five bits of its VALUE; if any of these in SHADOW is 1", BoundaryTests::places);
        says("Terms 3: An OCTET that is DEAD, read: a CRY (2)", BoundaryTests::deadOctetsRead);
        says("Terms 3: the place's CRY ahead of it", BoundaryTests::placeAheadOfDead);
        says("Terms 3: THE RING: the last 16 of these", BoundaryTests::sixteenInTheRing);
        says("Terms 3: THE RING: the last 16, BY LOTS", BoundaryTests::ringByLots);
        says("Terms 3: MARK: left over as 64 bits do", BoundaryTests::markLeftOver);
        says("Terms 3: SLACK ALL: (not BY LOTS)", BoundaryTests::slackNotByLots);
        says("Terms 3: 32 at most are kept, the oldest are lost", BoundaryTests::thirtyTwoChanges);
        says("Terms 3: UNDONE: the latest change, after others were undone", BoundaryTests::changesGoRound);
        says("Terms 3: UNDONE: the latest change of one REGISTER or OCTET", BoundaryTests::changesOfOctets);
        says("Terms 3: UNDONE: by section 3, BY LOTS too", BoundaryTests::changesByLots);
        says("Terms 3: LET, GIVEN BACK are none", BoundaryTests::letAndGivenBackAreNoChanges);
        says("Terms 3: TICKS, CRIES, what is DEAD, or no more, stay", BoundaryTests::undoLeavesTheRest);
        says("Terms 3: IMAGES 0, 1 keep REGISTERS, OCTETS, what is DEAD", BoundaryTests::imagesOfAll);
        says("Terms 3: IMAGES 0, 1, each for itself", BoundaryTests::imagesAreCopies);
    }

    private static void promises() {
        says("Promise 2: All is as at first (IMAGES are gone): TICKS there were", BoundaryTests::startTellsTicks);
        says("Promise 2: All is as at first, from the fullest", BoundaryTests::startFromTheFullest);
        says("Promise 3: what it was", BoundaryTests::setTellsTheValue);
        says("Promise 4: Some bits (a SET of 8) are not known: SHADOW then", BoundaryTests::forgetBits);
        says("Promise 5: as another one (perhaps itself)", BoundaryTests::copyOfItself);
        says("Promise 7: from bit 0 on, the others are 0, known", BoundaryTests::partsOfOctets);
        says("Promise 7: FROM: 0, if none is unknown", BoundaryTests::partOfWhatIsKnown);
        says("Promise 9: that another one tells (perhaps itself)", BoundaryTests::loadAtItself);
        says("Promise 10: AT the place that a REGISTER at tells, r itself", BoundaryTests::storeAtItself);
        says("Promise 11: of a and b (perhaps the same)", BoundaryTests::rulesOfTheSame);
        says("Promise 14: how many are LET; NOT: it was", BoundaryTests::allGivenBackOneByOne);
        says("Promise 15: n times (1 .. 40)", BoundaryTests::driftsFromOneToForty);
        says("Promise 15: CRIES then", BoundaryTests::driftTellsAllCries);
        says("Promise 16: X becomes v: what it was", BoundaryTests::lotTellsWhatItWas);
        says("Promise 18: 6, 8, 9: all and none", BoundaryTests::toldAtMost);
        says("Promise 20: in how many ways it could be (1 .. 256)", BoundaryTests::waysOfRegisters);
        says("Promise 21: the GROUND that was LET last over it (NONE)", BoundaryTests::lastGroundOverAnOctet);
        says("Promise 22: CRIES that name it (of those kept)", BoundaryTests::criesOfThoseKept);
        says("Promises 27, 28: nothing can be undone then", BoundaryTests::nothingCanBeUndoneThen);
    }

    public static void main(String[] args) {
        whatItIs();
        termsOne();
        termsTwo();
        termsThree();
        promises();
        System.out.println(wrong == 0 ? tests + " sentences: all as due" : wrong + " answers are not as due");
        if (wrong != 0) {
            System.exit(1);
        }
    }
}
