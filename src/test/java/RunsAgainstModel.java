import java.util.ArrayDeque;
import java.util.ArrayList;
import java.util.Deque;
import java.util.List;
import java.util.Random;
import java.util.TreeSet;

/**
 * Long runs of calls, sensible and senseless ones, each answer held against a second program that
 * follows the document's words with sets, lists and records and by trying all that could be.
 */
public final class RunsAgainstModel {
    private static final int RUNS = 6000, CALLS = 260;
    private static final int[] ODD = {Integer.MIN_VALUE, Integer.MIN_VALUE + 1, -1000000001, -256, -2, -1, 256, 257, 1 << 16, Integer.MAX_VALUE - 1, Integer.MAX_VALUE};
    // The calls in the order of the document's face; those below have their numbers from here.
    private static final String[] NAMES = {"start", "set", "forget", "copy", "load", "part", "store", "loadAt", "storeAt", "rule", "decide", "let", "giveBack", "drift", "lot", "undo", "told", "mark", "register", "octet", "ground", "cry", "ring", "shadow", "exact", "keep", "goBack"};
    // Just beyond the largest argument that is of use, argument by argument.
    private static final int[][] BOUNDS = {{}, {8, 256}, {8, 256, 12}, {8, 8}, {8, 32}, {8, 32, 8, 9}, {8, 32}, {8, 8}, {8, 8}, {7, 8, 8, 8}, {8}, {32, 9}, {12}, {41}, {Integer.MAX_VALUE}, {}, {12}, {}, {8, 7}, {32, 5}, {12, 4}, {20, 3}, {16, 3}, {7, 256, 256, 256, 256}, {7, 256, 256, 256, 256}, {2}, {2}};
    // How often each call comes.
    private static final int[] WEIGHTS = {1, 20, 25, 10, 30, 20, 25, 20, 20, 40, 25, 25, 12, 3, 2, 15, 20, 8, 20, 20, 10, 12, 12, 6, 6, 4, 4};

    private record Cell(int value, int shadow, TreeSet<Integer> from) {
        static Cell of(int value, int shadow, TreeSet<Integer> from) {
            return new Cell(value, shadow, shadow == 0 ? new TreeSet<>() : new TreeSet<>(from));
        }

        int least() {
            return value & ~shadow;
        }

        boolean decided() {
            return shadow == 0 || least() != 0;
        }
    }

    private record Ground(int a, int n) { }

    private record Cry(int kind, int tick, TreeSet<Integer> grounds) { }

    private record Done(int kind, int tick, int told) { }

    private record Change(boolean register, int number, Cell before) { }

    private record Image(Cell[] registers, Cell[] octets, boolean[] dead) { }

    private static final class Model {
        static final int NONE = -1, UNKNOWN = -1000000001, OUTSIDE = -1000000002, NOT = -1000000003, FULL = -1000000004;
        Cell[] registers = new Cell[8];
        Cell[] octets = new Cell[32];
        boolean[] dead = new boolean[32];
        final List<Ground> grounds = new ArrayList<>();
        final TreeSet<Integer> let = new TreeSet<>();
        final List<Cry> cries = new ArrayList<>();
        final List<Done> done = new ArrayList<>();
        final Deque<Change> changes = new ArrayDeque<>();
        final Image[] images = new Image[2];
        long lot = 1;
        int slack = 0;
        long mark = 0;

        Model() {
            java.util.Arrays.fill(registers, Cell.of(0, 0, new TreeSet<>()));
            java.util.Arrays.fill(octets, Cell.of(0, 0, new TreeSet<>()));
        }

        static boolean in(int v, int low, int high) {
            return low <= v && v <= high;
        }

        static int setOf(TreeSet<Integer> numbers) {
            int set = 0;
            for (int n : numbers) {
                set += 1 << n;
            }
            return set;
        }

        int end(int kind, int told) {
            done.add(new Done(kind, done.size(), told));
            mark = mark * 31 + told;
            return told;
        }

        void cryOut(int kind, TreeSet<Integer> named) {
            cries.add(new Cry(kind, done.size(), new TreeSet<>(named)));
        }

        void remember(boolean register, int number) {
            changes.addLast(new Change(register, number, register ? registers[number] : octets[number]));
            if (changes.size() > 32) {
                changes.removeFirst();
            }
        }

        int toRegister(int kind, int r, Cell cell) {
            remember(true, r);
            registers[r] = cell;
            return end(kind, cell.shadow());
        }

        int toOctet(int kind, int o, Cell cell) {
            remember(false, o);
            octets[o] = cell;
            dead[o] = false;
            return end(kind, cell.shadow());
        }

        int lastOver(int o) {
            int last = NONE;
            for (int g = 0; g < grounds.size(); g++) {
                if (in(o, grounds.get(g).a(), grounds.get(g).a() + grounds.get(g).n() - 1)) {
                    last = g;
                }
            }
            return last;
        }

        Cell read(int o) {
            if (dead[o]) {
                cryOut(2, new TreeSet<>(List.of(lastOver(o))));
            }
            return octets[o];
        }

        int place(int at) {
            if (registers[at].shadow() % 32 != 0) {
                cryOut(1, registers[at].from());
            }
            return registers[at].value() % 32;
        }

        static int value(int sort, int a, int b) {
            return switch (sort) {
                case 0 -> a & b;
                case 1 -> a | b;
                case 2 -> a ^ b;
                case 3 -> (a + b) % 256;
                case 4 -> (256 + a - b) % 256;
                case 5 -> (a << b % 8) % 256;
                default -> a >> b % 8;
            };
        }

        static int shadowOf(int sort, int a, int s, int b, int t) {
            int knownA = 255 - s, knownB = 255 - t;
            return switch (sort) {
                case 0 -> (s | t) & ~(knownA & ~a) & ~(knownB & ~b);
                case 1 -> (s | t) & ~(knownA & a) & ~(knownB & b);
                case 2 -> s | t;
                case 3 -> (value(3, a & ~s, b & ~t) ^ value(3, a | s, b | t)) | s | t;
                case 4 -> (value(4, a & ~s, b | t) ^ value(4, a | s, b & ~t)) | s | t;
                default -> t % 8 != 0 ? 255 : value(sort, s, b);
            };
        }

        static int exactOf(int sort, int a, int s, int b, int t) {
            int some = 0, all = 255;
            for (int u = 0; u < 256; u++) {
                for (int v = 0; v < 256 && (u & ~s) == 0; v++) {
                    if ((v & ~t) == 0) {
                        int r = value(sort, a & ~s | u, b & ~t | v);
                        some |= r;
                        all &= r;
                    }
                }
            }
            return some & ~all;
        }

        int ruled(int sort, int r, int first, int second, boolean counted) {
            Cell a = registers[first], b = registers[second];
            int shadow = shadowOf(sort, a.value(), a.shadow(), b.value(), b.shadow());
            if (counted) {
                slack += Integer.bitCount(shadow & ~exactOf(sort, a.value(), a.shadow(), b.value(), b.shadow()));
            }
            TreeSet<Integer> from = new TreeSet<>();
            from.addAll(a.shadow() != 0 ? a.from() : new TreeSet<>());
            from.addAll(b.shadow() != 0 ? b.from() : new TreeSet<>());
            return toRegister(4, r, Cell.of(value(sort, a.value(), b.value()), shadow, from));
        }

        int wanted(int by) {
            lot = lot * 16807 % 2147483647;
            return (int) (lot % by);
        }

        int decided(int r) {
            if (!registers[r].decided()) {
                cryOut(0, registers[r].from());
            }
            return end(5, registers[r].value() != 0 ? 1 : 0);
        }

        void byLots() {
            switch (wanted(4)) {
                case 0 -> ruled(wanted(7), wanted(8), wanted(8), wanted(8), false);
                case 1 -> toRegister(2, wanted(8), read(wanted(32)));
                case 2 -> {
                    int r = wanted(8);
                    toOctet(3, wanted(32), registers[r]);
                }
                default -> decided(wanted(8));
            }
        }

        int lets(int a, int n) {
            if (!in(a, 0, 31) || !in(n, 1, 8) || a + n > 32) {
                return OUTSIDE;
            }
            for (int g : let) {
                Ground other = grounds.get(g);
                if (a < other.a() + other.n() && other.a() < a + n) {
                    return NOT;
                }
            }
            if (grounds.size() == 12) {
                return FULL;
            }
            int number = grounds.size();
            grounds.add(new Ground(a, n));
            let.add(number);
            for (int o = a; o < a + n; o++) {
                octets[o] = Cell.of(wanted(256), 255, new TreeSet<>(List.of(number)));
                dead[o] = false;
            }
            return end(6, number);
        }

        int givesBack(int g) {
            if (!in(g, 0, grounds.size() - 1)) {
                return UNKNOWN;
            }
            if (!let.remove(g)) {
                return NOT;
            }
            for (int o = grounds.get(g).a(); o < grounds.get(g).a() + grounds.get(g).n(); o++) {
                dead[o] = true;
            }
            return end(7, let.size());
        }

        int undoes() {
            if (changes.isEmpty()) {
                return NOT;
            }
            Change latest = changes.removeLast();
            (latest.register() ? registers : octets)[latest.number()] = latest.before();
            return changes.size();
        }

        static int unknown(Cell[] cells) {
            int bits = 0;
            for (Cell c : cells) {
                bits += Integer.bitCount(c.shadow());
            }
            return bits;
        }

        int tells(int what) {
            int deads = 0;
            for (boolean d : dead) {
                deads += d ? 1 : 0;
            }
            int[] all = {done.size(), cries.size(), Math.min(20, cries.size()), slack, grounds.size(), setOf(let), deads, Math.min(16, done.size()), unknown(registers), unknown(octets), (int) lot, changes.size()};
            return in(what, 0, 11) ? all[what] : OUTSIDE;
        }

        int part(int[] x) {
            if (!in(x[0], 0, 7) || !in(x[1], 0, 31)) {
                return UNKNOWN;
            }
            if (!in(x[3], 1, 8) || !in(x[2], 0, 8 - x[3])) {
                return OUTSIDE;
            }
            Cell whole = read(x[1]);
            int value = 0, shadow = 0;
            for (int k = 0; k < x[3]; k++) {
                value += (whole.value() >> x[2] + k & 1) << k;
                shadow += (whole.shadow() >> x[2] + k & 1) << k;
            }
            return toRegister(8, x[0], Cell.of(value, shadow, whole.from()));
        }

        int forget(int[] x) {
            if (!in(x[0], 0, 7) || !in(x[2], 0, grounds.size() - 1)) {
                return UNKNOWN;
            }
            if (!in(x[1], 1, 255)) {
                return OUTSIDE;
            }
            TreeSet<Integer> from = new TreeSet<>(registers[x[0]].from());
            from.add(x[2]);
            return toRegister(11, x[0], Cell.of(registers[x[0]].value(), registers[x[0]].shadow() | x[1], from));
        }

        int set(int r, int v) {
            if (!in(r, 0, 7)) {
                return UNKNOWN;
            }
            if (!in(v, 0, 255)) {
                return OUTSIDE;
            }
            int was = registers[r].value();
            remember(true, r);
            registers[r] = Cell.of(v, 0, new TreeSet<>());
            return end(0, was);
        }

        int ofRegister(int r, int what) {
            if (!in(r, 0, 7)) {
                return UNKNOWN;
            }
            Cell c = registers[r];
            int least = 256, most = -1, ways = 0;
            for (int v = 0; v < 256; v++) {
                if (((v ^ c.value()) & ~c.shadow()) == 0) {
                    least = Math.min(least, v);
                    most = Math.max(most, v);
                    ways++;
                }
            }
            int[] all = {c.value(), c.shadow(), setOf(c.from()), least, most, ways, c.decided() ? 1 : 0};
            return in(what, 0, 6) ? all[what] : OUTSIDE;
        }

        int ofOctet(int o, int what) {
            if (!in(o, 0, 31)) {
                return UNKNOWN;
            }
            int[] all = {octets[o].value(), octets[o].shadow(), setOf(octets[o].from()), dead[o] ? 1 : 0, lastOver(o)};
            return in(what, 0, 4) ? all[what] : OUTSIDE;
        }

        int ofGround(int g, int what) {
            if (!in(g, 0, grounds.size() - 1)) {
                return UNKNOWN;
            }
            int naming = 0;
            for (int k = 0; k < Math.min(20, cries.size()); k++) {
                naming += cries.get(k).grounds().contains(g) ? 1 : 0;
            }
            int[] all = {grounds.get(g).a(), grounds.get(g).n(), let.contains(g) ? 1 : 0, naming};
            return in(what, 0, 3) ? all[what] : OUTSIDE;
        }

        int ofCry(int k, int what) {
            if (!in(k, 0, Math.min(20, cries.size()) - 1)) {
                return UNKNOWN;
            }
            int[] all = {cries.get(k).kind(), cries.get(k).tick(), setOf(cries.get(k).grounds())};
            return in(what, 0, 2) ? all[what] : OUTSIDE;
        }

        int ofRing(int i, int what) {
            if (!in(what, 0, 2)) {
                return OUTSIDE;
            }
            if (!in(i, 0, Math.min(16, done.size()) - 1)) {
                return NONE;
            }
            Done d = done.get(done.size() - 1 - i);
            return new int[] {d.kind(), d.tick(), d.told()}[what];
        }

        int keeps(int i) {
            if (!in(i, 0, 1)) {
                return UNKNOWN;
            }
            images[i] = new Image(registers.clone(), octets.clone(), dead.clone());
            changes.clear();
            return 1;
        }

        int goesBack(int i) {
            if (!in(i, 0, 1)) {
                return UNKNOWN;
            }
            if (images[i] == null) {
                return NOT;
            }
            registers = images[i].registers().clone();
            octets = images[i].octets().clone();
            dead = images[i].dead().clone();
            changes.clear();
            return 1;
        }

        int drifts(int n) {
            if (!in(n, 1, 40)) {
                return OUTSIDE;
            }
            for (int i = 0; i < n; i++) {
                byLots();
            }
            return cries.size();
        }

        int lots(int v) {
            if (!in(v, 1, 2147483646)) {
                return OUTSIDE;
            }
            int was = (int) lot;
            lot = v;
            return was;
        }

        boolean registers(int... all) {
            for (int r : all) {
                if (!in(r, 0, 7)) {
                    return false;
                }
            }
            return true;
        }

        boolean bytes(int[] x) {
            return in(x[0], 0, 6) && in(x[1], 0, 255) && in(x[2], 0, 255) && in(x[3], 0, 255) && in(x[4], 0, 255);
        }

        long answer(int call, int[] x) {
            switch (call) {
                case 1: return set(x[0], x[1]);
                case 2: return forget(x);
                case 3: return registers(x) ? toRegister(1, x[0], registers[x[1]]) : UNKNOWN;
                case 4: return registers(x[0]) && in(x[1], 0, 31) ? toRegister(2, x[0], read(x[1])) : UNKNOWN;
                case 5: return part(x);
                case 6: return registers(x[0]) && in(x[1], 0, 31) ? toOctet(3, x[1], registers[x[0]]) : UNKNOWN;
                case 7: return registers(x) ? toRegister(9, x[0], read(place(x[1]))) : UNKNOWN;
                case 8: return registers(x) ? toOctet(10, place(x[1]), registers[x[0]]) : UNKNOWN;
                case 9: return !registers(x[1], x[2], x[3]) ? UNKNOWN : !in(x[0], 0, 6) ? OUTSIDE : ruled(x[0], x[1], x[2], x[3], true);
                case 10: return registers(x) ? decided(x[0]) : UNKNOWN;
                case 11: return lets(x[0], x[1]);
                case 12: return givesBack(x[0]);
                case 13: return drifts(x[0]);
                case 14: return lots(x[0]);
                case 15: return undoes();
                case 16: return tells(x[0]);
                case 17: return mark;
                case 18: return ofRegister(x[0], x[1]);
                case 19: return ofOctet(x[0], x[1]);
                case 20: return ofGround(x[0], x[1]);
                case 21: return ofCry(x[0], x[1]);
                case 22: return ofRing(x[0], x[1]);
                case 23: return bytes(x) ? shadowOf(x[0], x[1], x[2], x[3], x[4]) : OUTSIDE;
                case 24: return bytes(x) ? exactOf(x[0], x[1], x[2], x[3], x[4]) : OUTSIDE;
                case 25: return keeps(x[0]);
                default: return goesBack(x[0]);
            }
        }
    }

    private static long answer(BitShadows b, int call, int[] x) {
        switch (call) {
            case 0: return b.start();
            case 1: return b.set(x[0], x[1]);
            case 2: return b.forget(x[0], x[1], x[2]);
            case 3: return b.copy(x[0], x[1]);
            case 4: return b.load(x[0], x[1]);
            case 5: return b.part(x[0], x[1], x[2], x[3]);
            case 6: return b.store(x[0], x[1]);
            case 7: return b.loadAt(x[0], x[1]);
            case 8: return b.storeAt(x[0], x[1]);
            case 9: return b.rule(x[0], x[1], x[2], x[3]);
            case 10: return b.decide(x[0]);
            case 11: return b.let(x[0], x[1]);
            case 12: return b.giveBack(x[0]);
            case 13: return b.drift(x[0]);
            case 14: return b.lot(x[0]);
            case 15: return b.undo();
            case 16: return b.told(x[0]);
            case 17: return b.mark();
            case 18: return b.register(x[0], x[1]);
            case 19: return b.octet(x[0], x[1]);
            case 20: return b.ground(x[0], x[1]);
            case 21: return b.cry(x[0], x[1]);
            case 22: return b.ring(x[0], x[1]);
            case 23: return b.shadow(x[0], x[1], x[2], x[3], x[4]);
            case 24: return b.exact(x[0], x[1], x[2], x[3], x[4]);
            case 25: return b.keep(x[0]);
            default: return b.goBack(x[0]);
        }
    }

    private static int wrong = 0;

    private static final class Run {
        final int number;
        final Random random;
        final BitShadows tested = new BitShadows();
        final List<String> calls = new ArrayList<>();
        Model model = new Model();
        boolean right = true;

        Run(int number) {
            this.number = number;
            this.random = new Random(number);
        }

        void call(int call, int... x) {
            calls.add(NAMES[call] + java.util.Arrays.toString(x));
            long want;
            if (call == 0) {
                want = model.done.size();
                model = new Model();
            } else {
                want = model.answer(call, x);
            }
            long got = answer(tested, call, x);
            if (got != want && right) {
                right = false;
                wrong++;
                System.out.println("run " + number + ": answered " + got + ", due is " + want + " at the last of " + calls);
            }
        }

        int argument(int bound) {
            int chance = random.nextInt(400);
            if (chance < 3) {
                return ODD[random.nextInt(ODD.length)];
            }
            if (chance < 6) {
                return bound;
            }
            if (chance < 9) {
                return -1;
            }
            // Small numbers often, so that REGISTERS, OCTETS and GROUNDS meet again.
            return chance < 150 ? random.nextInt(Math.min(bound, 4)) : random.nextInt(bound);
        }

        int choose() {
            int all = 0;
            for (int w : WEIGHTS) {
                all += w;
            }
            int at = random.nextInt(all);
            int call = 0;
            while (at >= WEIGHTS[call]) {
                at -= WEIGHTS[call];
                call++;
            }
            return call;
        }

        void go() {
            for (int i = 0; i < CALLS && right; i++) {
                int call = choose();
                int[] x = new int[BOUNDS[call].length];
                for (int k = 0; k < x.length; k++) {
                    x[k] = argument(BOUNDS[call][k]);
                }
                call(call, x);
            }
            tellAll();
        }

        /** All that is told of the cells, the rest by turns: a run has 512 calls. */
        void tellAll() {
            for (int what = 0; what < 12; what++) {
                call(16, what);
            }
            call(17);
            for (int r = 0; r < 8; r++) {
                for (int what = 0; what < 3; what++) {
                    call(18, r, what);
                }
            }
            for (int o = 0; o < 32; o++) {
                for (int what = 0; what < 3; what++) {
                    call(19, o, what);
                }
                call(19, o, number % 2 == 0 ? 3 : 4);
            }
            for (int i = 0; i < 12; i++) {
                call(20, i, number % 4);
                call(21, number % 2 == 0 ? i : 19 - i, number % 3);
                call(22, i, number % 3);
            }
            for (int i = 0; i < 33; i++) {
                call(15);
            }
            call(18, number % 8, 1);
        }
    }

    public static void main(String[] args) {
        for (int number = 0; number < RUNS && wrong < 5; number++) {
            new Run(number).go();
        }
        System.out.println(wrong == 0 ? RUNS + " runs: all answers are as due" : wrong + " runs are not as due");
        if (wrong != 0) {
            System.exit(1);
        }
    }
}
