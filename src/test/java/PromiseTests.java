/** For each promise: ordinary inputs, the edges that the document names, and wrong inputs. */
public final class PromiseTests {
    private static final int UNKNOWN = BitShadows.UNKNOWN, OUTSIDE = BitShadows.OUTSIDE;
    private static final int NOT = BitShadows.NOT, FULL = BitShadows.FULL, NONE = BitShadows.NONE;
    private static final int MIN = Integer.MIN_VALUE, MAX = Integer.MAX_VALUE;
    private static final int TICKS = 0, CRIES = 1, CRIES_KEPT = 2, SLACK = 3, GROUNDS = 4, LET = 5;
    private static final int DEAD = 6, RING = 7, REGISTER_BITS = 8, OCTET_BITS = 9, LOT = 10, UNDOABLE = 11;
    private static final int VALUE = 0, SHADOW = 1, FROM = 2;

    private static int wrong = 0;
    private static int promise = 0;

    private static void due(String what, long got, long want) {
        if (got != want) {
            wrong++;
            System.out.println("promise " + promise + ": " + what + " is " + got + ", due is " + want);
        }
    }

    private static void dueRegister(BitShadows x, int r, int value, int shadow, int from) {
        due("VALUE of REGISTER " + r, x.register(r, VALUE), value);
        due("SHADOW of REGISTER " + r, x.register(r, SHADOW), shadow);
        due("FROM of REGISTER " + r, x.register(r, FROM), from);
    }

    private static void dueOctet(BitShadows x, int o, int value, int shadow, int from) {
        due("VALUE of OCTET " + o, x.octet(o, VALUE), value);
        due("SHADOW of OCTET " + o, x.octet(o, SHADOW), shadow);
        due("FROM of OCTET " + o, x.octet(o, FROM), from);
    }

    /** The latest entry of THE RING, and that it is of the latest TICK. */
    private static void dueDone(BitShadows x, int kind, int told) {
        due("kind in THE RING", x.ring(0, 0), kind);
        due("TICK in THE RING", x.ring(0, 1), x.told(TICKS) - 1);
        due("told in THE RING", x.ring(0, 2), told);
    }

    private static void dueCry(BitShadows x, int k, int kind, int tick, int grounds) {
        due("kind of CRY " + k, x.cry(k, 0), kind);
        due("TICK of CRY " + k, x.cry(k, 1), tick);
        due("GROUNDS of CRY " + k, x.cry(k, 2), grounds);
    }

    private static void dueAsAtFirst(BitShadows x) {
        for (int what = 0; what <= UNDOABLE; what++) {
            due("told(" + what + ")", x.told(what), what == LOT ? 1 : 0);
        }
        due("mark", x.mark(), 0);
        for (int r = 0; r < 8; r++) {
            dueRegister(x, r, 0, 0, 0);
        }
        for (int o = 0; o < 32; o++) {
            dueOctet(x, o, 0, 0, 0);
            due("DEAD of OCTET", x.octet(o, 3), 0);
            due("last GROUND of OCTET", x.octet(o, 4), NONE);
        }
        due("ground(0, 0)", x.ground(0, 0), UNKNOWN);
        due("cry(0, 0)", x.cry(0, 0), UNKNOWN);
        due("ring(0, 0)", x.ring(0, 0), NONE);
        due("undo", x.undo(), NOT);
        due("goBack(0)", x.goBack(0), NOT);
        due("goBack(1)", x.goBack(1), NOT);
    }

    /** What no refusal may change, in one number. */
    private static long stateOf(BitShadows x) {
        long all = x.mark();
        for (int what = 0; what <= UNDOABLE; what++) {
            all = all * 1000003 + x.told(what);
        }
        for (int r = 0; r < 8; r++) {
            for (int what = 0; what < 3; what++) {
                all = all * 1000003 + x.register(r, what);
            }
        }
        for (int o = 0; o < 32; o++) {
            for (int what = 0; what < 5; what++) {
                all = all * 1000003 + x.octet(o, what);
            }
        }
        return all;
    }

    private static BitShadows unlet() {
        return new BitShadows();
    }

    /** GROUND 0 over OCTETS 0 .. 3, GROUND 1 over 4 .. 7. */
    private static BitShadows withTwoGrounds() {
        BitShadows x = new BitShadows();
        x.let(0, 4);
        x.let(4, 4);
        return x;
    }

    private static void newObject() {
        due("NONE", NONE, -1);
        due("UNKNOWN", UNKNOWN, -1000000001);
        due("OUTSIDE", OUTSIDE, -1000000002);
        due("NOT", NOT, -1000000003);
        due("FULL", FULL, -1000000004);
        dueAsAtFirst(unlet());
        BitShadows one = unlet();
        one.set(0, 7);
        due("another object's REGISTER", unlet().register(0, VALUE), 0);
        due("the first object's REGISTER", one.register(0, VALUE), 7);
    }

    private static void start() {
        due("start of a new one", unlet().start(), 0);
        BitShadows x = withTwoGrounds();
        x.load(0, 1);
        x.rule(5, 1, 1, 0);
        due("SLACK there was", x.told(SLACK), 8);
        x.decide(0);
        x.giveBack(0);
        x.load(2, 2);
        x.keep(0);
        x.keep(1);
        x.set(3, 9);
        due("TICKS there were", x.start(), 8);
        dueAsAtFirst(x);
        due("start anew", x.start(), 0);
        due("GROUND by number, anew", x.let(0, 1), 0);
        dueOctet(x, 0, 16807 % 256, 255, 1);
    }

    private static void set() {
        BitShadows x = withTwoGrounds();
        x.load(0, 0);
        int before = x.register(0, VALUE);
        due("set over what is unknown", x.set(0, 255), before);
        dueRegister(x, 0, 255, 0, 0);
        dueDone(x, 0, before);
        due("set(0, 0)", x.set(0, 0), 255);
        due("set(7, 1)", x.set(7, 1), 0);
        dueRegister(x, 7, 1, 0, 0);
        long state = stateOf(x);
        due("set(8, 1)", x.set(8, 1), UNKNOWN);
        due("set(MIN, 1)", x.set(MIN, 1), UNKNOWN);
        due("set(MAX, 256)", x.set(MAX, 256), UNKNOWN);
        due("set(0, 256)", x.set(0, 256), OUTSIDE);
        due("set(0, -1)", x.set(0, -1), OUTSIDE);
        due("state after refusals", stateOf(x), state);
    }

    private static void forget() {
        BitShadows x = withTwoGrounds();
        x.set(0, 200);
        due("forget(0, 1, 0)", x.forget(0, 1, 0), 1);
        dueRegister(x, 0, 200, 1, 1);
        dueDone(x, 11, 1);
        due("forget(0, 128, 1)", x.forget(0, 128, 1), 129);
        dueRegister(x, 0, 200, 129, 3);
        due("forget(0, 255, 1)", x.forget(0, 255, 1), 255);
        x.giveBack(0);
        due("FROM a GROUND that was given back", x.forget(1, 4, 0), 4);
        dueRegister(x, 1, 0, 4, 1);
        due("changes", x.told(UNDOABLE), 5);
        long state = stateOf(x);
        due("forget(8, 1, 0)", x.forget(8, 1, 0), UNKNOWN);
        due("forget(-1, 0, 0)", x.forget(-1, 0, 0), UNKNOWN);
        due("forget(0, 1, 2)", x.forget(0, 1, 2), UNKNOWN);
        due("forget(0, 0, 2)", x.forget(0, 0, 2), UNKNOWN);
        due("forget(0, 1, -1)", x.forget(0, 1, -1), UNKNOWN);
        due("forget(0, 1, MIN)", x.forget(0, 1, MIN), UNKNOWN);
        due("forget(0, 0, 0)", x.forget(0, 0, 0), OUTSIDE);
        due("forget(0, 256, 0)", x.forget(0, 256, 0), OUTSIDE);
        due("forget(0, -1, 0)", x.forget(0, -1, 0), OUTSIDE);
        due("state after refusals", stateOf(x), state);
    }

    private static void copy() {
        BitShadows x = withTwoGrounds();
        x.set(0, 77);
        x.forget(0, 6, 1);
        due("copy(7, 0)", x.copy(7, 0), 6);
        dueRegister(x, 7, 77, 6, 2);
        dueDone(x, 1, 6);
        due("copy(0, 0)", x.copy(0, 0), 6);
        dueRegister(x, 0, 77, 6, 2);
        due("copy(7, 1)", x.copy(7, 1), 0);
        dueRegister(x, 7, 0, 0, 0);
        due("copies don't cry", x.told(CRIES), 0);
        due("a copy of itself can be undone", x.told(UNDOABLE), 5);
        long state = stateOf(x);
        due("copy(8, 0)", x.copy(8, 0), UNKNOWN);
        due("copy(0, 8)", x.copy(0, 8), UNKNOWN);
        due("copy(-1, 0)", x.copy(-1, 0), UNKNOWN);
        due("copy(0, MAX)", x.copy(0, MAX), UNKNOWN);
        due("state after refusals", stateOf(x), state);
    }

    private static void load() {
        BitShadows x = withTwoGrounds();
        due("load(3, 5)", x.load(3, 5), 255);
        dueRegister(x, 3, x.octet(5, VALUE), 255, 2);
        dueDone(x, 2, 255);
        due("loads don't cry", x.told(CRIES), 0);
        due("load(3, 31)", x.load(3, 31), 0);
        dueRegister(x, 3, 0, 0, 0);
        x.giveBack(1);
        due("load of a DEAD OCTET", x.load(4, 7), 255);
        dueRegister(x, 4, x.octet(7, VALUE), 255, 2);
        due("CRIES", x.told(CRIES), 1);
        dueCry(x, 0, 2, 5, 2);
        x.let(7, 1);
        x.giveBack(2);
        x.load(4, 7);
        dueCry(x, 1, 2, 8, 4);
        long state = stateOf(x);
        due("load(8, 0)", x.load(8, 0), UNKNOWN);
        due("load(0, 32)", x.load(0, 32), UNKNOWN);
        due("load(0, -1)", x.load(0, -1), UNKNOWN);
        due("load(MIN, 7)", x.load(MIN, 7), UNKNOWN);
        due("state after refusals", stateOf(x), state);
    }

    private static void part() {
        BitShadows x = withTwoGrounds();
        x.set(0, 0b10110101);
        x.forget(0, 0b00111100, 1);
        x.store(0, 20);
        due("part(1, 20, 0, 8)", x.part(1, 20, 0, 8), 0b00111100);
        dueRegister(x, 1, 0b10110101, 0b00111100, 2);
        dueDone(x, 8, 0b00111100);
        due("part(1, 20, 4, 4)", x.part(1, 20, 4, 4), 0b0011);
        dueRegister(x, 1, 0b1011, 0b0011, 2);
        due("part(1, 20, 7, 1)", x.part(1, 20, 7, 1), 0);
        dueRegister(x, 1, 1, 0, 0);
        due("part(1, 20, 0, 2)", x.part(1, 20, 0, 2), 0);
        dueRegister(x, 1, 1, 0, 0);
        x.giveBack(0);
        due("part of a DEAD OCTET", x.part(2, 3, 1, 3), 7);
        dueCry(x, 0, 2, x.told(TICKS) - 1, 1);
        long state = stateOf(x);
        due("part(8, 0, 0, 1)", x.part(8, 0, 0, 1), UNKNOWN);
        due("part(0, 32, 9, 9)", x.part(0, 32, 9, 9), UNKNOWN);
        due("part(0, -1, 0, 1)", x.part(0, -1, 0, 1), UNKNOWN);
        due("part(0, 0, 0, 0)", x.part(0, 0, 0, 0), OUTSIDE);
        due("part(0, 0, 0, 9)", x.part(0, 0, 0, 9), OUTSIDE);
        due("part(0, 0, -1, 1)", x.part(0, 0, -1, 1), OUTSIDE);
        due("part(0, 0, 8, 1)", x.part(0, 0, 8, 1), OUTSIDE);
        due("part(0, 0, 1, 8)", x.part(0, 0, 1, 8), OUTSIDE);
        due("part(0, 0, MAX, 1)", x.part(0, 0, MAX, 1), OUTSIDE);
        due("part(0, 0, 0, MIN)", x.part(0, 0, 0, MIN), OUTSIDE);
        due("part(0, 0, MIN, MIN)", x.part(0, 0, MIN, MIN), OUTSIDE);
        due("state after refusals", stateOf(x), state);
    }

    private static void store() {
        BitShadows x = withTwoGrounds();
        x.set(0, 99);
        x.forget(0, 3, 0);
        due("store(0, 31)", x.store(0, 31), 3);
        dueOctet(x, 31, 99, 3, 1);
        dueDone(x, 3, 3);
        due("store(1, 4)", x.store(1, 4), 0);
        dueOctet(x, 4, 0, 0, 0);
        x.giveBack(1);
        due("DEAD", x.told(DEAD), 4);
        due("store to a DEAD OCTET", x.store(0, 6), 3);
        due("no more DEAD", x.octet(6, 3), 0);
        due("DEAD beside it", x.octet(5, 3), 1);
        due("DEAD beside it", x.octet(7, 3), 1);
        due("its last GROUND", x.octet(6, 4), 1);
        x.load(2, 6);
        due("stores don't cry", x.told(CRIES), 0);
        long state = stateOf(x);
        due("store(8, 5)", x.store(8, 5), UNKNOWN);
        due("store(0, 32)", x.store(0, 32), UNKNOWN);
        due("store(-1, 5)", x.store(-1, 5), UNKNOWN);
        due("store(0, MIN)", x.store(0, MIN), UNKNOWN);
        due("state after refusals", stateOf(x), state);
    }

    private static void loadAt() {
        BitShadows x = withTwoGrounds();
        x.set(0, 224 + 5);
        due("loadAt(1, 0)", x.loadAt(1, 0), 255);
        dueRegister(x, 1, x.octet(5, VALUE), 255, 2);
        dueDone(x, 9, 255);
        x.forget(0, 224, 0);
        due("bits above the place are unknown", x.loadAt(1, 0), 255);
        due("CRIES", x.told(CRIES), 0);
        x.forget(0, 16, 1);
        due("a place that is not known", x.loadAt(0, 0), 255);
        dueRegister(x, 0, x.octet(5, VALUE), 255, 2);
        dueCry(x, 0, 1, 7, 3);
        x.set(0, 7);
        x.forget(0, 1, 0);
        x.giveBack(1);
        x.loadAt(3, 0);
        due("CRIES of place and DEAD", x.told(CRIES), 3);
        dueCry(x, 1, 1, 11, 1);
        dueCry(x, 2, 2, 11, 2);
        long state = stateOf(x);
        due("loadAt(8, 0)", x.loadAt(8, 0), UNKNOWN);
        due("loadAt(0, 8)", x.loadAt(0, 8), UNKNOWN);
        due("loadAt(-1, 0)", x.loadAt(-1, 0), UNKNOWN);
        due("loadAt(0, MIN)", x.loadAt(0, MIN), UNKNOWN);
        due("state after refusals", stateOf(x), state);
    }

    private static void storeAt() {
        BitShadows x = withTwoGrounds();
        x.set(0, 32 + 30);
        x.set(1, 8);
        x.forget(1, 2, 1);
        due("storeAt(1, 0)", x.storeAt(1, 0), 2);
        dueOctet(x, 30, 8, 2, 2);
        dueDone(x, 10, 2);
        x.forget(0, 1, 0);
        due("storeAt of the place itself", x.storeAt(0, 0), 1);
        dueOctet(x, 30, 62, 1, 1);
        dueCry(x, 0, 1, 7, 1);
        x.giveBack(0);
        x.set(0, 2);
        due("storeAt a DEAD OCTET", x.storeAt(1, 0), 2);
        due("no more DEAD", x.octet(2, 3), 0);
        due("DEAD", x.told(DEAD), 3);
        due("CRIES", x.told(CRIES), 1);
        long state = stateOf(x);
        due("storeAt(8, 0)", x.storeAt(8, 0), UNKNOWN);
        due("storeAt(0, 8)", x.storeAt(0, 8), UNKNOWN);
        due("storeAt(MAX, 0)", x.storeAt(MAX, 0), UNKNOWN);
        due("storeAt(0, -1)", x.storeAt(0, -1), UNKNOWN);
        due("state after refusals", stateOf(x), state);
    }

    private static void dueRule(int sort, int value, int shadow, int from) {
        BitShadows x = withTwoGrounds();
        x.set(0, 0b11001010);
        x.forget(0, 0b00001100, 0);
        x.set(1, 0b01000010);
        x.forget(1, 0b00010000, 1);
        due("rule of sort " + sort, x.rule(sort, 2, 0, 1), shadow);
        dueRegister(x, 2, value, shadow, from);
        dueDone(x, 4, shadow);
        dueRegister(x, 0, 0b11001010, 0b00001100, 1);
        dueRegister(x, 1, 0b01000010, 0b00010000, 2);
    }

    private static void rule() {
        dueRule(0, 0b01000010, 0b00000000, 0);
        dueRule(1, 0b11001010, 0b00011100, 3);
        dueRule(2, 0b10001000, 0b00011100, 3);
        dueRule(3, 0b00001100, 0b00111100, 3);
        dueRule(4, 0b10001000, 0b11111100, 3);
        dueRule(5, 0b00101000, 0b00110000, 3);
        dueRule(6, 0b00110010, 0b00000011, 3);
        BitShadows x = withTwoGrounds();
        x.set(0, 6);
        x.forget(0, 7, 0);
        due("either of itself", x.rule(2, 0, 0, 0), 7);
        dueRegister(x, 0, 0, 7, 1);
        x.set(1, 255);
        due("shift by what is not known", x.rule(6, 1, 1, 0), 255);
        dueRegister(x, 1, 255, 255, 1);
        long state = stateOf(x);
        due("rule(0, 8, 0, 0)", x.rule(0, 8, 0, 0), UNKNOWN);
        due("rule(0, 0, 8, 0)", x.rule(0, 0, 8, 0), UNKNOWN);
        due("rule(0, 0, 0, 8)", x.rule(0, 0, 0, 8), UNKNOWN);
        due("rule(7, 0, 0, -1)", x.rule(7, 0, 0, -1), UNKNOWN);
        due("rule(7, 0, 0, 0)", x.rule(7, 0, 0, 0), OUTSIDE);
        due("rule(-1, 0, 0, 0)", x.rule(-1, 0, 0, 0), OUTSIDE);
        due("state after refusals", stateOf(x), state);
    }

    private static void decide() {
        BitShadows x = withTwoGrounds();
        due("of 0, known", x.decide(0), 0);
        dueDone(x, 5, 0);
        x.set(0, 64);
        due("of 64, known", x.decide(0), 1);
        x.forget(0, 191, 1);
        due("known by one bit", x.decide(0), 1);
        due("CRIES", x.told(CRIES), 0);
        x.forget(0, 64, 0);
        due("of 64, unknown", x.decide(0), 1);
        dueCry(x, 0, 0, 8, 3);
        x.forget(1, 1, 1);
        due("of 0, unknown", x.decide(1), 0);
        dueCry(x, 1, 0, 10, 2);
        due("a decision is no change", x.told(UNDOABLE), 4);
        long state = stateOf(x);
        due("decide(8)", x.decide(8), UNKNOWN);
        due("decide(-1)", x.decide(-1), UNKNOWN);
        due("decide(MIN)", x.decide(MIN), UNKNOWN);
        due("state after refusals", stateOf(x), state);
    }

    private static void let() {
        BitShadows x = unlet();
        x.set(0, 5);
        x.store(0, 10);
        due("let(8, 8)", x.let(8, 8), 0);
        dueDone(x, 6, 0);
        long lot = 1;
        for (int o = 8; o < 16; o++) {
            lot = lot * 16807 % 2147483647;
            dueOctet(x, o, (int) (lot % 256), 255, 1);
            due("last GROUND", x.octet(o, 4), 0);
        }
        due("X", x.told(LOT), lot);
        due("let(24, 8)", x.let(24, 8), 1);
        dueOctet(x, 24, (int) (lot * 16807 % 2147483647 % 256), 255, 2);
        due("beside it", x.octet(23, SHADOW), 0);
        due("LET is no change", x.told(UNDOABLE), 2);
        long state = stateOf(x);
        due("let(0, 0)", x.let(0, 0), OUTSIDE);
        due("let(0, 9)", x.let(0, 9), OUTSIDE);
        due("let(-1, 1)", x.let(-1, 1), OUTSIDE);
        due("let(32, 1)", x.let(32, 1), OUTSIDE);
        due("let(25, 8)", x.let(25, 8), OUTSIDE);
        due("let(MAX, 8)", x.let(MAX, 8), OUTSIDE);
        due("let(MIN, MIN)", x.let(MIN, MIN), OUTSIDE);
        due("let(1, 8)", x.let(1, 8), NOT);
        due("let(15, 1)", x.let(15, 1), NOT);
        due("let(15, 4)", x.let(15, 4), NOT);
        due("state after refusals", stateOf(x), state);
        due("let(0, 8)", x.let(0, 8), 2);
        due("let(16, 8)", x.let(16, 8), 3);
        letAnew();
        letFull();
    }

    private static void letAnew() {
        BitShadows x = withTwoGrounds();
        x.giveBack(0);
        due("over what was given back", x.let(2, 2), 2);
        due("DEAD still", x.octet(1, 3), 1);
        due("no more DEAD", x.octet(2, 3), 0);
        due("DEAD", x.told(DEAD), 2);
        due("its last GROUND", x.octet(2, 4), 2);
        due("the other's last GROUND", x.octet(1, 4), 0);
        due("FROM the new one alone", x.octet(3, FROM), 4);
        due("over both kinds", x.let(1, 2), NOT);
    }

    private static void letFull() {
        BitShadows x = unlet();
        for (int g = 0; g < 12; g++) {
            due("let, one by one", x.let(g, 1), g);
        }
        due("NOT ahead of FULL", x.let(11, 1), NOT);
        due("OUTSIDE ahead of FULL", x.let(31, 2), OUTSIDE);
        due("the thirteenth", x.let(12, 1), FULL);
        x.giveBack(5);
        due("GROUNDS given back count", x.let(5, 1), FULL);
        due("TICKS after refusals", x.told(TICKS), 13);
        due("GROUNDS", x.told(GROUNDS), 12);
        dueOctet(x, 11, x.octet(11, VALUE), 255, 1 << 11);
    }

    private static void giveBack() {
        BitShadows x = withTwoGrounds();
        int value = x.octet(4, VALUE);
        due("giveBack(1)", x.giveBack(1), 1);
        dueDone(x, 7, 1);
        dueOctet(x, 4, value, 255, 2);
        for (int o = 0; o < 9; o++) {
            due("DEAD of OCTET " + o, x.octet(o, 3), o >= 4 && o < 8 ? 1 : 0);
        }
        due("ground(1, 2)", x.ground(1, 2), 0);
        due("LET still", x.told(LET), 1);
        due("GROUNDS still", x.told(GROUNDS), 2);
        due("giveBack(0)", x.giveBack(0), 0);
        due("GIVEN BACK is no change", x.told(UNDOABLE), 0);
        x.let(31, 1);
        due("giveBack(2)", x.giveBack(2), 0);
        due("OCTET 31 is DEAD", x.octet(31, 3), 1);
        due("DEAD", x.told(DEAD), 9);
        long state = stateOf(x);
        due("giveBack(1) again", x.giveBack(1), NOT);
        due("giveBack(3)", x.giveBack(3), UNKNOWN);
        due("giveBack(-1)", x.giveBack(-1), UNKNOWN);
        due("giveBack(MAX)", x.giveBack(MAX), UNKNOWN);
        due("state after refusals", stateOf(x), state);
    }

    private static int next(long[] lot, int bound) {
        lot[0] = lot[0] * 16807 % 2147483647;
        return (int) (lot[0] % bound);
    }

    /** The same by single calls; answers CRIES. */
    private static int driftByHand(BitShadows x, int n, long[] lot) {
        for (int i = 0; i < n; i++) {
            int kind = next(lot, 4);
            if (kind == 0) {
                int sort = next(lot, 7);
                int r = next(lot, 8);
                int a = next(lot, 8);
                x.rule(sort, r, a, next(lot, 8));
            } else if (kind == 3) {
                x.decide(next(lot, 8));
            } else {
                int r = next(lot, 8);
                int o = next(lot, 32);
                int done = kind == 1 ? x.load(r, o) : x.store(r, o);
                due("SHADOW by lots", done, x.register(r, SHADOW));
            }
        }
        return x.told(CRIES);
    }

    private static void drift() {
        int slack = 0;
        for (int seed = 1; seed < 40; seed++) {
            BitShadows x = withTwoGrounds();
            BitShadows y = withTwoGrounds();
            x.lot(seed * 1000);
            long[] lot = {seed * 1000};
            for (int turn = 0; turn < 3; turn++) {
                int n = turn == 0 ? 1 : 40;
                due("drift(" + n + ")", x.drift(n), driftByHand(y, n, lot));
            }
            due("X", x.told(LOT), lot[0]);
            y.lot((int) lot[0]);
            due("SLACK of what is done by lots", x.told(SLACK), 0);
            slack += y.told(SLACK);
            due("MARK", x.mark(), y.mark());
            for (int what = 0; what <= UNDOABLE; what++) {
                if (what != SLACK) {
                    due("told(" + what + ") after drift", x.told(what), y.told(what));
                }
            }
        }
        due("rules by lots had SLACK", slack > 0 ? 1 : 0, 1);
        manyCries();
        BitShadows x = withTwoGrounds();
        long state = stateOf(x);
        due("drift(0)", x.drift(0), OUTSIDE);
        due("drift(41)", x.drift(41), OUTSIDE);
        due("drift(-1)", x.drift(-1), OUTSIDE);
        due("drift(MIN)", x.drift(MIN), OUTSIDE);
        due("state after refusals", stateOf(x), state);
    }

    /** Answers all CRIES, where no more than twenty are kept. */
    private static void manyCries() {
        BitShadows x = withTwoGrounds();
        x.load(0, 0);
        for (int i = 0; i < 30; i++) {
            x.decide(0);
        }
        due("CRIES by hand", x.told(CRIES), 30);
        int then = x.drift(40);
        due("CRIES then", then, x.told(CRIES));
        due("CRIES above those kept", then >= 30 ? 1 : 0, 1);
        due("CRIES kept", x.told(CRIES_KEPT), 20);
    }

    private static void lot() {
        BitShadows x = unlet();
        due("lot(MAX - 1)", x.lot(2147483646), 1);
        due("told(10)", x.told(LOT), 2147483646);
        x.let(0, 1);
        due("X", x.told(LOT), 2147483646L * 16807 % 2147483647);
        due("lot(1)", x.lot(1), 2147483646L * 16807 % 2147483647);
        due("lot is no TICK", x.told(TICKS), 1);
        due("lot(0)", x.lot(0), OUTSIDE);
        due("lot(-1)", x.lot(-1), OUTSIDE);
        due("lot(MIN)", x.lot(MIN), OUTSIDE);
        due("lot(MAX)", x.lot(MAX), OUTSIDE);
        due("X after refusals", x.told(LOT), 1);
    }

    private static void undo() {
        BitShadows x = withTwoGrounds();
        int value = x.octet(4, VALUE);
        due("undo of nothing", x.undo(), NOT);
        x.set(0, 1);
        x.forget(0, 2, 0);
        x.copy(1, 0);
        x.store(1, 4);
        x.decide(0);
        x.giveBack(1);
        due("undo of store", x.undo(), 3);
        dueOctet(x, 4, value, 255, 2);
        due("undo of copy", x.undo(), 2);
        dueRegister(x, 1, 0, 0, 0);
        due("undo of forget", x.undo(), 1);
        dueRegister(x, 0, 1, 0, 0);
        due("undo of set", x.undo(), 0);
        dueRegister(x, 0, 0, 0, 0);
        due("undo of nothing more", x.undo(), NOT);
        due("TICKS stay", x.told(TICKS), 8);
        due("DEAD stays", x.told(DEAD), 4);
        undoLeavesDead();
        undoManyKinds();
        undoLosesTheOldest();
    }

    private static void undoLeavesDead() {
        BitShadows x = withTwoGrounds();
        int value = x.octet(4, VALUE);
        x.giveBack(1);
        x.store(0, 4);
        x.load(1, 5);
        due("CRIES", x.told(CRIES), 1);
        long mark = x.mark();
        x.undo();
        x.undo();
        dueOctet(x, 4, value, 255, 2);
        due("no more DEAD, all the same", x.octet(4, 3), 0);
        due("CRIES stay", x.told(CRIES), 1);
        due("MARK stays", x.mark(), mark);
        due("THE RING stays", x.ring(0, 0), 2);
        int last = x.octet(5, VALUE);
        x.store(0, 5);
        x.let(4, 4);
        x.undo();
        dueOctet(x, 5, last, 255, 2);
        due("its last GROUND stays", x.octet(5, 4), 2);
    }

    private static void undoManyKinds() {
        BitShadows x = withTwoGrounds();
        x.set(0, 9);
        x.load(1, 0);
        x.part(1, 1, 0, 4);
        x.loadAt(2, 0);
        x.storeAt(1, 0);
        x.rule(3, 1, 1, 0);
        due("changes", x.told(UNDOABLE), 6);
        due("undo of rule", x.undo(), 5);
        dueRegister(x, 1, x.octet(1, VALUE) & 15, 15, 1);
        due("undo of storeAt", x.undo(), 4);
        dueOctet(x, 9, 0, 0, 0);
        due("undo of loadAt", x.undo(), 3);
        due("undo of part", x.undo(), 2);
        dueRegister(x, 1, x.octet(0, VALUE), 255, 1);
        due("undo of load", x.undo(), 1);
        dueRegister(x, 1, 0, 0, 0);
    }

    private static void undoLosesTheOldest() {
        BitShadows x = unlet();
        for (int v = 1; v <= 40; v++) {
            x.set(0, v);
            due("changes", x.told(UNDOABLE), Math.min(v, 32));
        }
        for (int left = 31; left >= 0; left--) {
            due("undo", x.undo(), left);
            due("VALUE", x.register(0, VALUE), left + 8);
        }
        due("the oldest are lost", x.undo(), NOT);
        x.set(0, 50);
        due("undo anew", x.undo(), 0);
        due("VALUE", x.register(0, VALUE), 8);
    }

    private static void told() {
        BitShadows x = withTwoGrounds();
        x.let(30, 2);
        x.giveBack(1);
        x.load(0, 0);
        x.forget(1, 5, 2);
        x.rule(6, 2, 0, 1);
        x.decide(0);
        x.set(3, 16);
        x.rule(5, 3, 3, 1);
        int[] want = {10, 1, 1, 0, 3, 5, 4, 10, 26, 80, 0, 5};
        want[SLACK] = Integer.bitCount(255 & ~x.exact(6, 0, 255, 0, 5)) + Integer.bitCount(255 & ~x.exact(5, 16, 0, 0, 5));
        want[LOT] = 1;
        for (int i = 0; i < 10; i++) {
            want[LOT] = (int) (want[LOT] * 16807L % 2147483647);
        }
        for (int what = 0; what < want.length; what++) {
            due("told(" + what + ")", x.told(what), want[what]);
        }
        due("told(12)", x.told(12), OUTSIDE);
        due("told(-1)", x.told(-1), OUTSIDE);
        due("told(MIN)", x.told(MIN), OUTSIDE);
        for (int i = 0; i < 10; i++) {
            x.decide(1);
        }
        due("entries of THE RING", x.told(RING), 16);
        due("CRIES", x.told(CRIES), 11);
        due("bits in REGISTERS", x.told(REGISTER_BITS), 26);
        due("bits in OCTETS", x.told(OCTET_BITS), 80);
    }

    private static void mark() {
        BitShadows x = unlet();
        x.set(0, 200);
        due("after what told 0", x.mark(), 0);
        x.set(0, 100);
        due("after what told 200", x.mark(), 200);
        x.let(0, 1);
        due("after what told 0", x.mark(), 200 * 31);
        x.load(0, 0);
        due("after what told 255", x.mark(), 200 * 31 * 31 + 255);
        long want = x.mark();
        for (int i = 0; i < 60; i++) {
            want = want * 31 + 255;
            x.load(1, 0);
        }
        due("over 64 bits", x.mark(), want);
        x.set(9, 0);
        x.undo();
        x.keep(0);
        x.goBack(0);
        x.lot(5);
        x.told(0);
        due("after what is no TICK", x.mark(), want);
    }

    private static void register() {
        BitShadows x = withTwoGrounds();
        x.set(0, 0b10100101);
        x.forget(0, 0b00001111, 1);
        int[] want = {0b10100101, 0b00001111, 2, 0b10100000, 0b10101111, 16, 1};
        for (int what = 0; what < want.length; what++) {
            due("register(0, " + what + ")", x.register(0, what), want[what]);
        }
        due("ways of what is known", x.register(1, 5), 1);
        due("decision on 0, known", x.register(1, 6), 1);
        x.load(7, 0);
        int[] all = {x.octet(0, VALUE), 255, 1, 0, 255, 256, 0};
        for (int what = 0; what < all.length; what++) {
            due("register(7, " + what + ")", x.register(7, what), all[what]);
        }
        due("it does not cry", x.told(CRIES), 0);
        due("register(8, 0)", x.register(8, 0), UNKNOWN);
        due("register(-1, 7)", x.register(-1, 7), UNKNOWN);
        due("register(0, 7)", x.register(0, 7), OUTSIDE);
        due("register(0, -1)", x.register(0, -1), OUTSIDE);
    }

    private static void octet() {
        BitShadows x = withTwoGrounds();
        x.giveBack(1);
        int[] want = {x.octet(7, VALUE), 255, 2, 1, 1};
        x.load(0, 7);
        due("VALUE", x.register(0, VALUE), want[0]);
        for (int what = 1; what < want.length; what++) {
            due("octet(7, " + what + ")", x.octet(7, what), want[what]);
        }
        due("octet(8, 3)", x.octet(8, 3), 0);
        due("octet(8, 4)", x.octet(8, 4), NONE);
        due("CRIES by load alone", x.told(CRIES), 1);
        due("octet(32, 0)", x.octet(32, 0), UNKNOWN);
        due("octet(-1, 9)", x.octet(-1, 9), UNKNOWN);
        due("octet(0, 5)", x.octet(0, 5), OUTSIDE);
        due("octet(0, -1)", x.octet(0, -1), OUTSIDE);
    }

    private static void ground() {
        BitShadows x = withTwoGrounds();
        x.let(29, 3);
        x.giveBack(1);
        due("ground(2, 0)", x.ground(2, 0), 29);
        due("ground(2, 1)", x.ground(2, 1), 3);
        due("ground(2, 2)", x.ground(2, 2), 1);
        due("ground(1, 0)", x.ground(1, 0), 4);
        due("ground(1, 2)", x.ground(1, 2), 0);
        x.forget(0, 1, 0);
        x.forget(0, 1, 2);
        x.decide(0);
        x.load(1, 4);
        x.decide(1);
        due("ground(0, 3)", x.ground(0, 3), 1);
        due("ground(1, 3)", x.ground(1, 3), 2);
        due("ground(2, 3)", x.ground(2, 3), 1);
        for (int i = 0; i < 30; i++) {
            x.decide(0);
        }
        due("of those kept", x.ground(0, 3), 18);
        due("of those kept", x.ground(1, 3), 2);
        due("ground(3, 0)", x.ground(3, 0), UNKNOWN);
        due("ground(-1, 4)", x.ground(-1, 4), UNKNOWN);
        due("ground(12, 0)", x.ground(12, 0), UNKNOWN);
        due("ground(0, 4)", x.ground(0, 4), OUTSIDE);
        due("ground(0, -1)", x.ground(0, -1), OUTSIDE);
    }

    private static void cry() {
        BitShadows x = withTwoGrounds();
        due("none at first", x.cry(0, 0), UNKNOWN);
        due("UNKNOWN ahead of OUTSIDE", x.cry(0, 3), UNKNOWN);
        x.load(0, 4);
        for (int i = 0; i < 25; i++) {
            x.decide(0);
        }
        due("CRIES", x.told(CRIES), 25);
        due("CRIES kept", x.told(CRIES_KEPT), 20);
        for (int k = 0; k < 20; k++) {
            dueCry(x, k, 0, k + 3, 2);
        }
        due("cry(20, 0)", x.cry(20, 0), UNKNOWN);
        due("cry(-1, 0)", x.cry(-1, 0), UNKNOWN);
        due("cry(MAX, 0)", x.cry(MAX, 0), UNKNOWN);
        due("cry(0, 3)", x.cry(0, 3), OUTSIDE);
        due("cry(0, -1)", x.cry(0, -1), OUTSIDE);
    }

    private static void ring() {
        BitShadows x = unlet();
        for (int v = 1; v <= 40; v++) {
            x.set(0, v);
            due("entries", x.told(RING), Math.min(v, 16));
            due("the oldest", x.ring(Math.min(v, 16) - 1, 1), Math.max(0, v - 16));
            due("beyond it", x.ring(Math.min(v, 16), 1), NONE);
        }
        for (int i = 0; i < 16; i++) {
            due("which", x.ring(i, 0), 0);
            due("TICK", x.ring(i, 1), 39 - i);
            due("told", x.ring(i, 2), 39 - i);
        }
        due("ring(16, 0)", x.ring(16, 0), NONE);
        due("ring(-1, 0)", x.ring(-1, 0), NONE);
        due("ring(MIN, 2)", x.ring(MIN, 2), NONE);
        due("ring(MAX, 2)", x.ring(MAX, 2), NONE);
        due("ring(0, 3)", x.ring(0, 3), OUTSIDE);
        due("ring(0, -1)", x.ring(0, -1), OUTSIDE);
        due("ring(16, 3)", x.ring(16, 3), OUTSIDE);
        x.set(8, 0);
        due("what is refused is not in it", x.ring(0, 1), 39);
    }

    private static void shadow() {
        BitShadows x = unlet();
        due("and", x.shadow(0, 0b1100, 0b1010, 0b1010, 0b0101), 0b1110);
        due("and, known 0", x.shadow(0, 0, 15, 0, 0), 0);
        due("or", x.shadow(1, 0b0101, 0b1100, 0b0001, 0b0010), 0b1110);
        due("or, known 1", x.shadow(1, 0, 15, 15, 0), 0);
        due("either", x.shadow(2, 255, 5, 255, 10), 15);
        due("sum, carry to the top", x.shadow(3, 127, 0, 0, 1), 255);
        due("sum, beyond the top", x.shadow(3, 128, 0, 0, 128), 128);
        due("sum, carry that is stopped", x.shadow(3, 1, 0, 0, 1), 3);
        due("sum, both known", x.shadow(3, 200, 0, 100, 0), 0);
        due("sum, the ends alike in a bit", x.shadow(3, 0, 1, 1, 2), 7);
        due("difference, borrow", x.shadow(4, 16, 0, 0, 1), 31);
        due("difference, below 0", x.shadow(4, 0, 0, 0, 16), 240);
        due("difference, both known", x.shadow(4, 100, 0, 200, 0), 0);
        due("difference, the ends alike in a bit", x.shadow(4, 8, 1, 0, 1), 15);
        due("difference, unknown in one alone", x.shadow(4, 4, 3, 1, 1), 7);
        due("left", x.shadow(5, 0, 0b10010001, 1, 248), 0b00100010);
        due("right", x.shadow(6, 0, 0b10010001, 1, 248), 0b01001000);
        due("left by 7", x.shadow(5, 0, 3, 15, 0), 128);
        due("left by what is not known", x.shadow(5, 0, 0, 0, 4), 255);
        due("right by what is not known", x.shadow(6, 0, 0, 0, 1), 255);
        due("shadow is no TICK", x.told(TICKS), 0);
        int[][] outside = {{-1, 0, 0, 0, 0}, {7, 0, 0, 0, 0}, {0, -1, 0, 0, 0}, {0, 256, 0, 0, 0}, {0, 0, -1, 0, 0},
            {0, 0, 256, 0, 0}, {0, 0, 0, -1, 0}, {0, 0, 0, 256, 0}, {0, 0, 0, 0, -1}, {0, 0, 0, 0, 256}, {MIN, MIN, MAX, MIN, MAX}};
        for (int[] o : outside) {
            due("shadow, outside", x.shadow(o[0], o[1], o[2], o[3], o[4]), OUTSIDE);
            due("exact, outside", x.exact(o[0], o[1], o[2], o[3], o[4]), OUTSIDE);
        }
    }

    /** RulesAgainstAll holds it against all that there is; here are the edges. */
    private static void exact() {
        BitShadows x = unlet();
        due("left of 0", x.exact(5, 0, 0, 0, 7), 0);
        due("left of 1", x.exact(5, 1, 0, 0, 7), 255);
        due("left of 1 by 0, 2, 4, 6", x.exact(5, 1, 0, 0, 6), 0b01010101);
        due("left of 1 by 1, 3, 5, 7", x.exact(5, 1, 0, 1, 6), 0b10101010);
        due("right of 255 by 0, 4", x.exact(6, 255, 0, 0, 4), 240);
        due("right of 255 by 4, 5", x.exact(6, 255, 0, 4, 1), 0b1000);
        due("sum", x.exact(3, 255, 0, 0, 1), 255);
        due("and of known 0", x.exact(0, 0, 0, 0, 255), 0);
        due("exact is no TICK", x.told(TICKS), 0);
    }

    private static void keep() {
        BitShadows x = withTwoGrounds();
        x.set(0, 1);
        due("keep(0)", x.keep(0), 1);
        due("nothing can be undone", x.told(UNDOABLE), 0);
        due("undo", x.undo(), NOT);
        due("keep is no TICK", x.told(TICKS), 3);
        x.set(0, 2);
        due("keep(1)", x.keep(1), 1);
        x.goBack(0);
        due("IMAGE 0", x.register(0, VALUE), 1);
        x.goBack(1);
        due("IMAGE 1", x.register(0, VALUE), 2);
        x.set(0, 3);
        x.keep(0);
        x.set(0, 4);
        x.goBack(0);
        due("IMAGE 0, kept anew", x.register(0, VALUE), 3);
        x.set(0, 5);
        due("keep(2)", x.keep(2), UNKNOWN);
        due("keep(-1)", x.keep(-1), UNKNOWN);
        due("keep(MIN)", x.keep(MIN), UNKNOWN);
        due("can be undone after refusals", x.told(UNDOABLE), 1);
    }

    private static void goBack() {
        BitShadows x = withTwoGrounds();
        x.set(0, 3);
        x.set(2, 32);
        x.forget(2, 1, 1);
        x.giveBack(0);
        x.store(0, 1);
        int value = x.octet(2, VALUE);
        x.keep(1);
        x.let(0, 4);
        x.giveBack(1);
        x.load(3, 4);
        x.copy(0, 2);
        x.set(2, 0);
        int ticks = x.told(TICKS);
        long mark = x.mark();
        int lot = x.told(LOT);
        due("goBack(0)", x.goBack(0), NOT);
        due("can be undone after a refusal", x.told(UNDOABLE), 3);
        due("goBack(1)", x.goBack(1), 1);
        due("nothing can be undone", x.told(UNDOABLE), 0);
        due("undo", x.undo(), NOT);
        dueRegister(x, 0, 3, 0, 0);
        dueRegister(x, 2, 32, 1, 2);
        dueRegister(x, 3, 0, 0, 0);
        dueOctet(x, 1, 3, 0, 0);
        dueOctet(x, 2, value, 255, 1);
        int[] dead = {1, 0, 1, 1, 0, 0, 0, 0};
        for (int o = 0; o < dead.length; o++) {
            due("DEAD of OCTET " + o, x.octet(o, 3), dead[o]);
        }
        due("TICKS stay", x.told(TICKS), ticks);
        due("MARK stays", x.mark(), mark);
        due("X stays", x.told(LOT), lot);
        due("CRIES stay", x.told(CRIES), 1);
        due("GROUNDS stay", x.told(LET), 4);
        due("the last GROUND stays", x.octet(0, 4), 2);
        x.load(5, 0);
        dueCry(x, 1, 2, ticks, 4);
        due("goBack(1) again", x.goBack(1), 1);
        due("goBack(2)", x.goBack(2), UNKNOWN);
        due("goBack(-1)", x.goBack(-1), UNKNOWN);
        due("goBack(MAX)", x.goBack(MAX), UNKNOWN);
    }

    private static void runFirstHalf(int number) {
        switch (number) {
            case 1: newObject(); break;
            case 2: start(); break;
            case 3: set(); break;
            case 4: forget(); break;
            case 5: copy(); break;
            case 6: load(); break;
            case 7: part(); break;
            case 8: store(); break;
            case 9: loadAt(); break;
            case 10: storeAt(); break;
            case 11: rule(); break;
            case 12: decide(); break;
            case 13: let(); break;
            default: giveBack(); break;
        }
    }

    private static void runSecondHalf(int number) {
        switch (number) {
            case 15: drift(); break;
            case 16: lot(); break;
            case 17: undo(); break;
            case 18: told(); break;
            case 19: mark(); break;
            case 20: register(); break;
            case 21: octet(); break;
            case 22: ground(); break;
            case 23: cry(); break;
            case 24: ring(); break;
            case 25: shadow(); break;
            case 26: exact(); break;
            case 27: keep(); break;
            default: goBack(); break;
        }
    }

    public static void main(String[] args) {
        for (promise = 1; promise <= 28; promise++) {
            if (promise <= 14) {
                runFirstHalf(promise);
            } else {
                runSecondHalf(promise);
            }
        }
        System.out.println(wrong == 0 ? "28 promises: all answers are as due" : wrong + " answers are not as due");
        if (wrong != 0) {
            System.exit(1);
        }
    }
}
