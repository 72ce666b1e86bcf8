import java.util.ArrayList;
import java.util.Arrays;
import java.util.List;

/**
 * Each bound of an argument that the document names, one row for each: the last numbers that are
 * allowed, the first that are not on either side, and numbers far outside. Each refusal is held
 * against an object on which the refused call was never made: nothing that can be seen differs.
 */
public final class ArgumentEdgeTests {
    private static final int NONE = -1, UNKNOWN = -1000000001, OUTSIDE = -1000000002, NOT = -1000000003, FULL = -1000000004;
    private static final int MIN = Integer.MIN_VALUE, MAX = Integer.MAX_VALUE;

    private interface Call {
        long on(BitShadows x, int[] v);
    }

    private interface House {
        BitShadows build();
    }

    private interface View {
        void look(BitShadows x, List<Long> seen);
    }

    /** Argument number at of a call may be low .. high, the others being as in valid; else refusal is due. */
    private record Bound(String sentence, Call call, int[] valid, int at, int low, int high, int refusal) { }

    /** What a call answers that may not be done, or only in part. */
    private record Refused(String sentence, House house, Call call, int[] v, int due) { }

    private static int wrong = 0;
    private static int tests = 0;

    private static void due(String sentence, int[] v, long got, long want) {
        if (got != want) {
            wrong++;
            System.out.println(sentence + ": with " + Arrays.toString(v) + " answered " + got + ", due is " + want);
        }
    }

    // ---- houses; each takes some hundred calls at most, for a view takes up to 400

    private static BitShadows empty() {
        return new BitShadows();
    }

    /** GROUNDS 0 and 2 are LET, 1 is GIVEN BACK; seven CRIES; THE RING is full; both IMAGES are kept. */
    private static BitShadows busy() {
        BitShadows x = new BitShadows();
        x.let(8, 4);
        x.let(12, 4);
        x.let(16, 4);
        x.giveBack(1);
        x.load(0, 8);
        x.decide(0);
        x.keep(0);
        x.load(1, 13);
        x.decide(1);
        x.set(2, 77);
        x.forget(2, 9, 2);
        x.rule(5, 3, 2, 0);
        x.store(2, 14);
        x.keep(1);
        x.loadAt(4, 2);
        x.part(5, 15, 2, 3);
        x.rule(3, 6, 2, 5);
        x.set(7, 200);
        x.copy(7, 6);
        x.storeAt(3, 7);
        x.store(2, 31);
        x.rule(6, 0, 2, 1);
        return x;
    }

    /** As many GROUNDS, CRIES, entries of THE RING and changes as are kept at most, and more. */
    private static BitShadows full() {
        BitShadows x = new BitShadows();
        for (int g = 0; g < 12; g++) {
            x.let(2 * g, 2);
        }
        x.giveBack(3);
        x.load(0, 22);
        for (int i = 0; i < 21; i++) {
            x.decide(0);
        }
        x.keep(0);
        for (int i = 0; i < 35; i++) {
            x.set(i % 8, i);
        }
        x.keep(1);
        for (int i = 0; i < 17; i++) {
            x.load(i % 8, i);
            x.store(i % 8, 31 - i);
        }
        return x;
    }

    // ---- views

    private static void lookAt(List<Long> seen, long answer) {
        seen.add(answer);
    }

    private static void lookAtCells(BitShadows x, List<Long> seen) {
        for (int r = 0; r < 8; r++) {
            for (int what = 0; what < 3; what++) {
                lookAt(seen, x.register(r, what));
            }
        }
        for (int o = 0; o < 32; o++) {
            for (int what = 0; what < 4; what++) {
                lookAt(seen, x.octet(o, what));
            }
        }
    }

    private static void lookAtWhatIsTold(BitShadows x, List<Long> seen) {
        for (int what = 0; what < 12; what++) {
            lookAt(seen, x.told(what));
        }
        lookAt(seen, x.mark());
        lookAtCells(x, seen);
        for (int g = 0; g < 12; g++) {
            for (int what = 0; what < 4; what++) {
                lookAt(seen, x.ground(g, what));
            }
        }
        for (int i = 0; i < 17; i++) {
            for (int what = 0; what < 3; what++) {
                lookAt(seen, x.ring(i, what));
            }
        }
        for (int k = 0; k < 20; k++) {
            for (int what = 0; what < 3; what++) {
                lookAt(seen, x.cry(k, what));
            }
        }
    }

    private static void lookAtWhatCanBeUndone(BitShadows x, List<Long> seen) {
        for (int i = 0; i < 33; i++) {
            lookAt(seen, x.undo());
            lookAt(seen, x.told(8));
            lookAt(seen, x.told(9));
        }
        lookAtCells(x, seen);
    }

    private static void lookAtFirstImage(BitShadows x, List<Long> seen) {
        lookAt(seen, x.goBack(0));
        lookAtCells(x, seen);
    }

    private static void lookAtSecondImage(BitShadows x, List<Long> seen) {
        lookAt(seen, x.goBack(1));
        lookAtCells(x, seen);
    }

    private static void lookAtWhatComesNext(BitShadows x, List<Long> seen) {
        lookAt(seen, x.drift(40));
        lookAt(seen, x.mark());
        lookAt(seen, x.told(10));
        for (int o = 0; o < 32; o++) {
            lookAt(seen, x.octet(o, 4));
            lookAt(seen, x.load(0, o));
        }
        lookAt(seen, x.told(1));
        lookAt(seen, x.let(24, 1));
        lookAt(seen, x.mark());
    }

    private static final View[] VIEWS = {ArgumentEdgeTests::lookAtWhatIsTold, ArgumentEdgeTests::lookAtWhatCanBeUndone,
        ArgumentEdgeTests::lookAtFirstImage, ArgumentEdgeTests::lookAtSecondImage, ArgumentEdgeTests::lookAtWhatComesNext};

    private static List<Long> seen(BitShadows x, View view) {
        List<Long> all = new ArrayList<>();
        view.look(x, all);
        return all;
    }

    /** What is refused changes nothing. */
    private static void dueRefusal(String sentence, House house, Call call, int[] v, int refusal) {
        for (View view : VIEWS) {
            BitShadows x = house.build();
            due(sentence, v, call.on(x, v), refusal);
            if (!seen(x, view).equals(seen(house.build(), view))) {
                wrong++;
                System.out.println(sentence + ": refused with " + Arrays.toString(v) + ", but something changed");
            }
        }
    }

    // ---- bounds

    private static int[] with(int[] valid, int at, long number) {
        int[] v = valid.clone();
        v[at] = (int) number;
        return v;
    }

    /** Just outside, far outside, and what would be inside if only its lowest bits were looked at. */
    private static long[] around(Bound b) {
        return new long[] {b.low() - 1L, b.high() + 1L, b.low() - 2L, b.high() + 2L, MIN, MIN + 1L, MAX, MAX - 1L,
            b.low() - 256L, b.low() + 256L, b.high() - 65536L, b.high() + 65536L, b.low() + (1L << 30), b.low() - (1L << 30),
            MIN + (long) b.low(), MIN + (long) b.high(), NONE, UNKNOWN, OUTSIDE, NOT, FULL};
    }

    private static void dueAllowed(Bound b, int number) {
        int[] v = with(b.valid(), b.at(), number);
        long got = b.call().on(busy(), v);
        if (got == UNKNOWN || got == OUTSIDE || got == NOT || got == FULL || got == NONE) {
            wrong++;
            System.out.println(b.sentence() + ": with " + Arrays.toString(v) + " was refused: " + got);
        }
    }

    private static void check(Bound b) {
        tests++;
        dueAllowed(b, b.low());
        dueAllowed(b, b.high());
        for (long number : around(b)) {
            boolean inside = number >= b.low() && number <= b.high();
            if (!inside && number >= MIN && number <= MAX) {
                dueRefusal(b.sentence(), ArgumentEdgeTests::busy, b.call(), with(b.valid(), b.at(), number), b.refusal());
            }
        }
    }

    private static int[] of(int... v) {
        return v;
    }

    private static final Call SET = (x, v) -> x.set(v[0], v[1]);
    private static final Call FORGET = (x, v) -> x.forget(v[0], v[1], v[2]);
    private static final Call COPY = (x, v) -> x.copy(v[0], v[1]);
    private static final Call LOAD = (x, v) -> x.load(v[0], v[1]);
    private static final Call PART = (x, v) -> x.part(v[0], v[1], v[2], v[3]);
    private static final Call STORE = (x, v) -> x.store(v[0], v[1]);
    private static final Call LOAD_AT = (x, v) -> x.loadAt(v[0], v[1]);
    private static final Call STORE_AT = (x, v) -> x.storeAt(v[0], v[1]);
    private static final Call RULE = (x, v) -> x.rule(v[0], v[1], v[2], v[3]);
    private static final Call DECIDE = (x, v) -> x.decide(v[0]);
    private static final Call LET = (x, v) -> x.let(v[0], v[1]);
    private static final Call GIVE_BACK = (x, v) -> x.giveBack(v[0]);
    private static final Call DRIFT = (x, v) -> x.drift(v[0]);
    private static final Call LOT = (x, v) -> x.lot(v[0]);
    private static final Call UNDO = (x, v) -> x.undo();
    private static final Call TOLD = (x, v) -> x.told(v[0]);
    private static final Call REGISTER = (x, v) -> x.register(v[0], v[1]);
    private static final Call OCTET = (x, v) -> x.octet(v[0], v[1]);
    private static final Call GROUND = (x, v) -> x.ground(v[0], v[1]);
    private static final Call CRY = (x, v) -> x.cry(v[0], v[1]);
    private static final Call RING = (x, v) -> x.ring(v[0], v[1]);
    private static final Call SHADOW = (x, v) -> x.shadow(v[0], v[1], v[2], v[3], v[4]);
    private static final Call EXACT = (x, v) -> x.exact(v[0], v[1], v[2], v[3], v[4]);
    private static final Call KEEP = (x, v) -> x.keep(v[0]);
    private static final Call GO_BACK = (x, v) -> x.goBack(v[0]);

    private static final Bound[] BOUNDS = {
        new Bound("promise 3: a REGISTER", SET, of(0, 1), 0, 0, 7, UNKNOWN),
        new Bound("promise 3: a VALUE (0 .. 255)", SET, of(0, 1), 1, 0, 255, OUTSIDE),
        new Bound("promise 4: a REGISTER", FORGET, of(0, 1, 0), 0, 0, 7, UNKNOWN),
        new Bound("promise 4: bits 1 .. 255", FORGET, of(0, 1, 0), 1, 1, 255, OUTSIDE),
        new Bound("promise 4: FROM a GROUND", FORGET, of(0, 1, 0), 2, 0, 2, UNKNOWN),
        new Bound("promise 5: a REGISTER", COPY, of(0, 1), 0, 0, 7, UNKNOWN),
        new Bound("promise 5: another one", COPY, of(0, 1), 1, 0, 7, UNKNOWN),
        new Bound("promise 6: a REGISTER", LOAD, of(0, 1), 0, 0, 7, UNKNOWN),
        new Bound("promise 6: an OCTET", LOAD, of(0, 1), 1, 0, 31, UNKNOWN),
        new Bound("promise 7: to a REGISTER", PART, of(0, 1, 0, 8), 0, 0, 7, UNKNOWN),
        new Bound("promise 7: of an OCTET", PART, of(0, 1, 0, 8), 1, 0, 31, UNKNOWN),
        new Bound("promise 7: n bits (1 .. 8)", PART, of(0, 1, 0, 1), 3, 1, 8, OUTSIDE),
        new Bound("promise 7: low and n 8 at most, n of low 1", PART, of(0, 1, 1, 1), 3, 1, 7, OUTSIDE),
        new Bound("promise 7: low and n 8 at most, n of low 7", PART, of(0, 1, 7, 1), 3, 1, 1, OUTSIDE),
        new Bound("promise 7: from bit low on", PART, of(0, 1, 0, 1), 2, 0, 7, OUTSIDE),
        new Bound("promise 7: low and n 8 at most, low of n 4", PART, of(0, 1, 0, 4), 2, 0, 4, OUTSIDE),
        new Bound("promise 7: low and n 8 at most, low of n 8", PART, of(0, 1, 0, 8), 2, 0, 0, OUTSIDE),
        new Bound("promise 8: a REGISTER", STORE, of(0, 1), 0, 0, 7, UNKNOWN),
        new Bound("promise 8: an OCTET", STORE, of(0, 1), 1, 0, 31, UNKNOWN),
        new Bound("promise 9: a REGISTER", LOAD_AT, of(0, 1), 0, 0, 7, UNKNOWN),
        new Bound("promise 9: the place that another one tells", LOAD_AT, of(0, 1), 1, 0, 7, UNKNOWN),
        new Bound("promise 10: as REGISTER r", STORE_AT, of(0, 1), 0, 0, 7, UNKNOWN),
        new Bound("promise 10: the place that a REGISTER at tells", STORE_AT, of(0, 1), 1, 0, 7, UNKNOWN),
        new Bound("promise 11: a SORT", RULE, of(0, 1, 2, 3), 0, 0, 6, OUTSIDE),
        new Bound("promise 11: REGISTER r", RULE, of(0, 1, 2, 3), 1, 0, 7, UNKNOWN),
        new Bound("promise 11: of a", RULE, of(0, 1, 2, 3), 2, 0, 7, UNKNOWN),
        new Bound("promise 11: and b", RULE, of(0, 1, 2, 3), 3, 0, 7, UNKNOWN),
        new Bound("promise 12: a REGISTER", DECIDE, of(0), 0, 0, 7, UNKNOWN),
        new Bound("promise 13: a 0 .. 31", LET, of(0, 1), 0, 0, 31, OUTSIDE),
        new Bound("promise 13: n 1 .. 8", LET, of(0, 1), 1, 1, 8, OUTSIDE),
        new Bound("promise 13: a and n 32 at most, n of a 25", LET, of(25, 1), 1, 1, 7, OUTSIDE),
        new Bound("promise 13: a and n 32 at most, n of a 31", LET, of(31, 1), 1, 1, 1, OUTSIDE),
        new Bound("promise 13: a and n 32 at most, a of n 8", LET, of(0, 8), 0, 0, 24, OUTSIDE),
        new Bound("promise 13: a and n 32 at most, a of n 2", LET, of(0, 2), 0, 0, 30, OUTSIDE),
        new Bound("promise 14: a GROUND", GIVE_BACK, of(0), 0, 0, 2, UNKNOWN),
        new Bound("promise 15: n times (1 .. 40)", DRIFT, of(1), 0, 1, 40, OUTSIDE),
        new Bound("promise 16: v (1 .. 2147483646)", LOT, of(1), 0, 1, 2147483646, OUTSIDE),
        new Bound("promise 18: what, 0 .. 11", TOLD, of(0), 0, 0, 11, OUTSIDE),
        new Bound("promise 20: a REGISTER", REGISTER, of(0, 0), 0, 0, 7, UNKNOWN),
        new Bound("promise 20: what, 0 .. 6", REGISTER, of(0, 0), 1, 0, 6, OUTSIDE),
        new Bound("promise 21: an OCTET", OCTET, of(0, 0), 0, 0, 31, UNKNOWN),
        new Bound("promise 21: what, 0 .. 4", OCTET, of(8, 0), 1, 0, 4, OUTSIDE),
        new Bound("promise 22: a GROUND", GROUND, of(0, 0), 0, 0, 2, UNKNOWN),
        new Bound("promise 22: what, 0 .. 3", GROUND, of(0, 0), 1, 0, 3, OUTSIDE),
        new Bound("promise 23: a CRY that is kept", CRY, of(0, 0), 0, 0, 6, UNKNOWN),
        new Bound("promise 23: what, 0 .. 2", CRY, of(0, 0), 1, 0, 2, OUTSIDE),
        new Bound("promise 24: entry i", RING, of(0, 0), 0, 0, 15, NONE),
        new Bound("promise 24: OUTSIDE (what)", RING, of(0, 0), 1, 0, 2, OUTSIDE),
        new Bound("promise 25: a SORT", SHADOW, of(0, 0, 0, 0, 0), 0, 0, 6, OUTSIDE),
        new Bound("promise 25: VALUE a 0 .. 255", SHADOW, of(3, 0, 0, 0, 0), 1, 0, 255, OUTSIDE),
        new Bound("promise 25: SHADOW s 0 .. 255", SHADOW, of(3, 0, 0, 0, 0), 2, 0, 255, OUTSIDE),
        new Bound("promise 25: VALUE b 0 .. 255", SHADOW, of(5, 0, 0, 0, 0), 3, 0, 255, OUTSIDE),
        new Bound("promise 25: SHADOW t 0 .. 255", SHADOW, of(5, 0, 0, 0, 0), 4, 0, 255, OUTSIDE),
        new Bound("promise 26: a SORT", EXACT, of(0, 0, 0, 0, 0), 0, 0, 6, OUTSIDE),
        new Bound("promise 26: VALUE a 0 .. 255", EXACT, of(3, 0, 0, 0, 0), 1, 0, 255, OUTSIDE),
        new Bound("promise 26: SHADOW s 0 .. 255", EXACT, of(3, 0, 0, 0, 0), 2, 0, 255, OUTSIDE),
        new Bound("promise 26: VALUE b 0 .. 255", EXACT, of(5, 0, 0, 0, 0), 3, 0, 255, OUTSIDE),
        new Bound("promise 26: SHADOW t 0 .. 255", EXACT, of(5, 0, 0, 0, 0), 4, 0, 255, OUTSIDE),
        new Bound("promise 27: IMAGE i", KEEP, of(0), 0, 0, 1, UNKNOWN),
        new Bound("promise 28: IMAGE i", GO_BACK, of(0), 0, 0, 1, UNKNOWN),
    };

    private static BitShadows started() {
        BitShadows x = full();
        x.start();
        return x;
    }

    private static BitShadows withFirstImage() {
        BitShadows x = new BitShadows();
        x.let(0, 2);
        x.load(0, 0);
        x.keep(0);
        x.set(0, 9);
        return x;
    }

    private static BitShadows withSecondImage() {
        BitShadows x = new BitShadows();
        x.keep(1);
        x.set(0, 9);
        return x;
    }

    /** LET, GIVEN BACK and decisions are no changes. */
    private static BitShadows unchanged() {
        BitShadows x = new BitShadows();
        x.let(0, 8);
        x.let(8, 8);
        x.decide(0);
        x.giveBack(0);
        return x;
    }

    private static BitShadows allUndone() {
        BitShadows x = busy();
        for (int i = 0; i < 33; i++) {
            x.undo();
        }
        return x;
    }

    private static BitShadows goneBack() {
        BitShadows x = busy();
        x.goBack(1);
        return x;
    }

    private static BitShadows keptAnew() {
        BitShadows x = busy();
        x.keep(0);
        return x;
    }

    private static BitShadows allGivenBack() {
        BitShadows x = full();
        for (int g = 0; g < 12; g++) {
            x.giveBack(g);
        }
        return x;
    }

    /** The GROUND of OCTETS 8 .. 11 is LET, though they are as IMAGE 0 kept them ahead of that. */
    private static BitShadows letAheadOfGoingBack() {
        BitShadows x = new BitShadows();
        x.keep(0);
        x.let(8, 4);
        x.goBack(0);
        return x;
    }

    private static final House EMPTY = ArgumentEdgeTests::empty, BUSY = ArgumentEdgeTests::busy, FULL_HOUSE = ArgumentEdgeTests::full;

    private static final Refused[] IN_ORDER = {
        new Refused("promise 3: UNKNOWN ahead of OUTSIDE", BUSY, SET, of(8, 256), UNKNOWN),
        new Refused("promise 3: UNKNOWN ahead of OUTSIDE", BUSY, SET, of(-1, -1), UNKNOWN),
        new Refused("promise 4: UNKNOWN (REGISTER) ahead of OUTSIDE", BUSY, FORGET, of(8, 0, 0), UNKNOWN),
        new Refused("promise 4: UNKNOWN (GROUND) ahead of OUTSIDE", BUSY, FORGET, of(0, 0, 3), UNKNOWN),
        new Refused("promise 4: UNKNOWN (GROUND) ahead of OUTSIDE", BUSY, FORGET, of(0, 256, -1), UNKNOWN),
        new Refused("promise 4: no GROUND at first", EMPTY, FORGET, of(0, 1, 0), UNKNOWN),
        new Refused("promise 4: UNKNOWN ahead of OUTSIDE, at first", EMPTY, FORGET, of(0, 0, 0), UNKNOWN),
        new Refused("promise 7: UNKNOWN (REGISTER) ahead of OUTSIDE", BUSY, PART, of(8, 0, 0, 0), UNKNOWN),
        new Refused("promise 7: UNKNOWN (OCTET) ahead of OUTSIDE", BUSY, PART, of(0, 32, 0, 9), UNKNOWN),
        new Refused("promise 7: UNKNOWN (OCTET) ahead of OUTSIDE", BUSY, PART, of(0, -1, 8, 1), UNKNOWN),
        new Refused("promise 7: low and n beyond the greatest int", BUSY, PART, of(0, 13, MAX, MAX), OUTSIDE),
        new Refused("promise 7: low and n beyond the greatest int", BUSY, PART, of(0, 13, MAX, 8), OUTSIDE),
        new Refused("promise 7: low below 0, low and n inside", BUSY, PART, of(0, 13, -1, 8), OUTSIDE),
        new Refused("promise 7: n below 1, low and n inside", BUSY, PART, of(0, 13, 8, 0), OUTSIDE),
        new Refused("promise 7: n below 1, low and n inside", BUSY, PART, of(0, 13, 8, -1), OUTSIDE),
        new Refused("promise 7: low and n, both the least int", BUSY, PART, of(0, 13, MIN, MIN), OUTSIDE),
        new Refused("promise 11: UNKNOWN (r) ahead of OUTSIDE", BUSY, RULE, of(7, 8, 0, 0), UNKNOWN),
        new Refused("promise 11: UNKNOWN (a) ahead of OUTSIDE", BUSY, RULE, of(-1, 0, 8, 0), UNKNOWN),
        new Refused("promise 11: UNKNOWN (b) ahead of OUTSIDE", BUSY, RULE, of(7, 0, 0, -1), UNKNOWN),
        new Refused("promise 13: NOT: the first OCTET alone is LET", BUSY, LET, of(19, 8), NOT),
        new Refused("promise 13: NOT: the last OCTET alone is LET", BUSY, LET, of(1, 8), NOT),
        new Refused("promise 13: NOT: one in the midst is LET", BUSY, LET, of(12, 5), NOT),
        new Refused("promise 13: NOT: all are LET", BUSY, LET, of(8, 4), NOT),
        new Refused("promise 13: NOT: it is around a GROUND that is LET", BUSY, LET, of(7, 6), NOT),
        new Refused("promise 13: NOT: bits were stored there", BUSY, LET, of(8, 1), NOT),
        new Refused("promise 13: NOT: LET, though gone back", ArgumentEdgeTests::letAheadOfGoingBack, LET, of(11, 1), NOT),
        new Refused("promise 13: OUTSIDE (n) ahead of NOT", BUSY, LET, of(8, 9), OUTSIDE),
        new Refused("promise 13: OUTSIDE (n) ahead of NOT", BUSY, LET, of(8, 0), OUTSIDE),
        new Refused("promise 13: OUTSIDE (a and n) ahead of NOT", FULL_HOUSE, LET, of(23, 10), OUTSIDE),
        new Refused("promise 13: OUTSIDE (a and n) ahead of FULL", FULL_HOUSE, LET, of(31, 2), OUTSIDE),
        new Refused("promise 13: OUTSIDE (a) ahead of FULL", FULL_HOUSE, LET, of(32, 1), OUTSIDE),
        new Refused("promise 13: a and n beyond the greatest int", BUSY, LET, of(MAX, 8), OUTSIDE),
        new Refused("promise 13: a and n beyond the greatest int", BUSY, LET, of(MAX, MAX), OUTSIDE),
        new Refused("promise 13: a and n, both the least int", BUSY, LET, of(MIN, MIN), OUTSIDE),
        new Refused("promise 13: a below 0, a and n inside", BUSY, LET, of(-1, 8), OUTSIDE),
        new Refused("promise 13: NOT ahead of FULL", FULL_HOUSE, LET, of(23, 1), NOT),
        new Refused("promise 13: NOT (one OCTET) ahead of FULL", FULL_HOUSE, LET, of(23, 8), NOT),
        new Refused("promise 13: FULL (12)", FULL_HOUSE, LET, of(24, 1), FULL),
        new Refused("promise 13: FULL (12), over what was GIVEN BACK", FULL_HOUSE, LET, of(6, 2), FULL),
        new Refused("promise 13: FULL (12), though none is LET", ArgumentEdgeTests::allGivenBack, LET, of(0, 8), FULL),
        new Refused("promise 14: no GROUND at first", EMPTY, GIVE_BACK, of(0), UNKNOWN),
        new Refused("promise 14: no GROUND after start", ArgumentEdgeTests::started, GIVE_BACK, of(0), UNKNOWN),
        new Refused("promise 14: the GROUND that there is not yet", FULL_HOUSE, GIVE_BACK, of(12), UNKNOWN),
        new Refused("promise 14: NOT: it was", BUSY, GIVE_BACK, of(1), NOT),
        new Refused("promise 14: NOT: it was, one of twelve", FULL_HOUSE, GIVE_BACK, of(3), NOT),
        new Refused("promise 14: NOT: it was, the first", ArgumentEdgeTests::allGivenBack, GIVE_BACK, of(0), NOT),
        new Refused("promise 14: NOT: it was, the last", ArgumentEdgeTests::allGivenBack, GIVE_BACK, of(11), NOT),
        new Refused("promise 17: NOT: none, at first", EMPTY, UNDO, of(), NOT),
        new Refused("promise 17: NOT: none, after start", ArgumentEdgeTests::started, UNDO, of(), NOT),
        new Refused("promise 17: NOT: none, LET and GIVEN BACK are none", ArgumentEdgeTests::unchanged, UNDO, of(), NOT),
        new Refused("promise 17: NOT: none, all are undone", ArgumentEdgeTests::allUndone, UNDO, of(), NOT),
        new Refused("promise 17: NOT: none, after goBack", ArgumentEdgeTests::goneBack, UNDO, of(), NOT),
        new Refused("promise 17: NOT: none, after keep", ArgumentEdgeTests::keptAnew, UNDO, of(), NOT),
        new Refused("promise 20: UNKNOWN ahead of OUTSIDE", BUSY, REGISTER, of(8, 7), UNKNOWN),
        new Refused("promise 20: UNKNOWN ahead of OUTSIDE", BUSY, REGISTER, of(-1, -1), UNKNOWN),
        new Refused("promise 21: UNKNOWN ahead of OUTSIDE", BUSY, OCTET, of(32, 5), UNKNOWN),
        new Refused("promise 21: UNKNOWN ahead of OUTSIDE", BUSY, OCTET, of(-1, -1), UNKNOWN),
        new Refused("promise 22: UNKNOWN ahead of OUTSIDE", BUSY, GROUND, of(3, 4), UNKNOWN),
        new Refused("promise 22: no GROUND at first", EMPTY, GROUND, of(0, 0), UNKNOWN),
        new Refused("promise 22: no GROUND after start", ArgumentEdgeTests::started, GROUND, of(0, 0), UNKNOWN),
        new Refused("promise 22: twelve, and no more", FULL_HOUSE, GROUND, of(12, 0), UNKNOWN),
        new Refused("promise 23: UNKNOWN ahead of OUTSIDE", BUSY, CRY, of(7, 3), UNKNOWN),
        new Refused("promise 23: no CRY at first", EMPTY, CRY, of(0, 0), UNKNOWN),
        new Refused("promise 23: no CRY after start", ArgumentEdgeTests::started, CRY, of(0, 0), UNKNOWN),
        new Refused("promise 23: counted, not kept", FULL_HOUSE, CRY, of(20, 0), UNKNOWN),
        new Refused("promise 24: NONE, at first", EMPTY, RING, of(0, 2), NONE),
        new Refused("promise 24: NONE, after start", ArgumentEdgeTests::started, RING, of(0, 2), NONE),
        new Refused("promise 24: OUTSIDE (what), where there is no entry", EMPTY, RING, of(0, 3), OUTSIDE),
        new Refused("promise 24: OUTSIDE (what), beyond the last entry", FULL_HOUSE, RING, of(16, -1), OUTSIDE),
        new Refused("promise 28: UNKNOWN ahead of NOT", EMPTY, GO_BACK, of(2), UNKNOWN),
        new Refused("promise 28: UNKNOWN ahead of NOT", EMPTY, GO_BACK, of(-1), UNKNOWN),
        new Refused("promise 28: NOT: it was not kept, at first", EMPTY, GO_BACK, of(0), NOT),
        new Refused("promise 28: NOT: it was not kept, at first", EMPTY, GO_BACK, of(1), NOT),
        new Refused("promise 28: NOT: it was not kept, the other was", ArgumentEdgeTests::withFirstImage, GO_BACK, of(1), NOT),
        new Refused("promise 28: NOT: it was not kept, the other was", ArgumentEdgeTests::withSecondImage, GO_BACK, of(0), NOT),
        new Refused("promise 28: NOT: gone with start", ArgumentEdgeTests::started, GO_BACK, of(0), NOT),
        new Refused("promise 28: NOT: gone with start", ArgumentEdgeTests::started, GO_BACK, of(1), NOT),
    };

    private static final Call[] CALLS = {SET, FORGET, COPY, LOAD, PART, STORE, LOAD_AT, STORE_AT, RULE, DECIDE, LET, GIVE_BACK,
        DRIFT, LOT, UNDO, TOLD, REGISTER, OCTET, GROUND, CRY, RING, SHADOW, EXACT, KEEP, GO_BACK};

    /** No call throws, whatever its numbers are; and each either is refused or tells no less than 0. */
    private static void checkThatAllIsAnswered() {
        tests++;
        int[] numbers = {MIN, -1, 0, 1, 7, 8, 31, 32, 255, 256, MAX};
        House[] houses = {EMPTY, BUSY, FULL_HOUSE};
        for (House house : houses) {
            for (int call = 0; call < CALLS.length; call++) {
                for (int i = 0; i < 2000; i++) {
                    int[] v = new int[5];
                    int rest = i * 7919 + call;
                    for (int k = 0; k < v.length; k++) {
                        v[k] = numbers[rest % numbers.length];
                        rest = rest / numbers.length;
                    }
                    long got = CALLS[call].on(house.build(), v);
                    boolean refused = got <= UNKNOWN && got >= FULL || got == NONE;
                    due("call " + call + " is refused or tells", v, refused || got >= 0 ? 0 : got, 0);
                }
            }
        }
    }

    public static void main(String[] args) {
        for (Bound b : BOUNDS) {
            check(b);
        }
        for (Refused r : IN_ORDER) {
            tests++;
            dueRefusal(r.sentence(), r.house(), r.call(), r.v(), r.due());
        }
        checkThatAllIsAnswered();
        System.out.println(wrong == 0 ? tests + " bounds and refusals: all as due" : wrong + " answers are not as due");
        if (wrong != 0) {
            System.exit(1);
        }
    }
}
