import java.util.ArrayDeque;
import java.util.ArrayList;
import java.util.HashSet;
import java.util.List;
import java.util.Map;
import java.util.Set;
import java.util.TreeMap;

/**
 * The document once more, in the plainest way and with no thought of cost: PlainTest holds MoveDesk against it. It keeps
 * times of what happened instead of counters, and its judge goes one way at a time.
 */
final class PlainDesk {
    private static final int LONG_AGO = -1000;

    private final int buses;
    private final int[] latency;
    private final Map<Integer, int[]> code = new TreeMap<>();
    private final List<int[]> operations = new ArrayList<>();
    private final int[] words = new int[72];
    private int judgedFault = 0;
    private int runFault = 0;

    private int time;
    private int pc;
    private boolean halted;
    private int jumpTime;
    private int jumpTo;
    private final boolean[] guards = new boolean[4];
    private final int[] operands = new int[3];
    private final Integer[] results = new Integer[3];
    private final List<int[]> underWay = new ArrayList<>();

    PlainDesk(int buses, int multiply, int load) {
        this.buses = Math.min(4, Math.max(2, buses));
        this.latency = new int[] {1, Math.min(4, Math.max(1, multiply)), Math.min(3, Math.max(1, load))};
        reset();
    }

    int buses() {
        return buses;
    }

    void move(int cycle, int bus, int guard, int source, int constant, int destination) {
        checkBus(cycle, bus);
        if (guard < 0 || guard > 8 || source < 0 || source > 11 || destination < 0 || destination > 25) {
            throw new IllegalArgumentException();
        }
        code.put(cycle * 10 + bus, new int[] {guard, source, constant, destination});
    }

    private void checkBus(int cycle, int bus) {
        if (cycle < 0 || cycle > 63 || bus < 0 || bus >= buses) {
            throw new IndexOutOfBoundsException();
        }
    }

    boolean free(int cycle, int bus) {
        checkBus(cycle, bus);
        return code.remove(cycle * 10 + bus) != null;
    }

    int moveAt(int cycle, int bus, int what) {
        boolean is = cycle >= 0 && cycle <= 63 && bus >= 0 && bus < buses && what >= 0 && what <= 3;
        int[] move = is ? code.get(cycle * 10 + bus) : null;
        return move == null ? -1 : move[what];
    }

    void clear() {
        code.clear();
    }

    int operation(int kind, int d, int a, int b, int c) {
        boolean right = d >= 0 && d <= 7 && a >= 0 && a <= 8 && b >= 0 && b <= 8;
        if (!right || kind < 0 || kind > 4 || kind == 3 && b != 0 || kind == 4 && d != 0) {
            throw new IllegalArgumentException();
        }
        if (operations.size() == 20) {
            throw new IllegalStateException();
        }
        operations.add(new int[] {kind, d, a, b, c});
        return operations.size();
    }

    int forget() {
        int had = operations.size();
        operations.clear();
        return had;
    }

    // ---- the compiler: a list of moves {operation, role, cycle}; each condition is asked of the whole list

    private static final int O = 0;
    private static final int T = 1;
    private static final int R = 2;

    int compile() {
        List<int[]> placed = new ArrayList<>();
        Map<Integer, int[]> made = new TreeMap<>();
        int halt = 0;
        for (int i = 0; i < operations.size(); i++) {
            int t = 0;
            while (!mayTrigger(placed, made, i, t)) {
                t++;
            }
            int[] o = operations.get(i);
            if (o[0] != 3) {
                place(placed, made, i, O, t, o[2], 8 + unit(o));
            }
            place(placed, made, i, T, t, o[0] == 3 ? o[2] : o[3], 11 + o[0]);
            halt = Math.max(halt, t + 1);
            if (o[0] != 4) {
                int r = t + latency[unit(o)];
                while (!mayMoveResult(placed, made, i, r)) {
                    r++;
                }
                place(placed, made, i, R, r, 100 + unit(o), o[1]);
                halt = Math.max(halt, r + 1);
            }
        }
        if (halt > 63) {
            throw new UnsupportedOperationException();
        }
        code.clear();
        code.putAll(made);
        code.put(halt * 10, new int[] {0, 11, 0, 25});
        return halt;
    }

    private static int unit(int[] operation) {
        return new int[] {0, 0, 1, 2, 2}[operation[0]];
    }

    private static Set<Integer> reads(int[] operation) {
        Set<Integer> found = new HashSet<>();
        if (operation[2] < 8) {
            found.add(operation[2]);
        }
        if (operation[0] != 3 && operation[3] < 8) {
            found.add(operation[3]);
        }
        return found;
    }

    private int freeBuses(Map<Integer, int[]> made, int cycle) {
        int count = 0;
        for (int bus = 0; bus < buses; bus++) {
            count += made.containsKey(cycle * 10 + bus) ? 0 : 1;
        }
        return count;
    }

    private boolean mayTrigger(List<int[]> placed, Map<Integer, int[]> made, int i, int t) {
        int[] mine = operations.get(i);
        Set<Integer> registers = new HashSet<>(reads(mine));
        for (int[] p : placed) {
            int[] other = operations.get(p[0]);
            boolean sameUnit = unit(other) == unit(mine);
            if (p[1] == R && reads(mine).contains(other[1]) && t <= p[2]) {
                return false;
            }
            if (p[1] == T && sameUnit && t <= p[2]) {
                return false;
            }
            if (p[1] == R && sameUnit && mine[0] != 4 && t + latency[unit(mine)] <= p[2]) {
                return false;
            }
            if (p[1] == T && p[2] == t) {
                registers.addAll(reads(other));
            }
        }
        return registers.size() <= 2 && freeBuses(made, t) >= (mine[0] == 3 ? 1 : 2);
    }

    private boolean mayMoveResult(List<int[]> placed, Map<Integer, int[]> made, int i, int r) {
        int d = operations.get(i)[1];
        for (int[] p : placed) {
            int[] other = operations.get(p[0]);
            if (p[1] == R && (p[2] == r || other[1] == d && r <= p[2])) {
                return false;
            }
            if (p[1] == T && p[0] != i && reads(other).contains(d) && r < p[2]) {
                return false;
            }
        }
        return freeBuses(made, r) >= 1;
    }

    /** from: a register, 8 for the operation's constant, 100 + unit for a result. */
    private void place(List<int[]> placed, Map<Integer, int[]> made, int i, int role, int cycle, int from, int to) {
        int bus = 0;
        while (made.containsKey(cycle * 10 + bus)) {
            bus++;
        }
        int source = from >= 100 ? from - 100 + 8 : from == 8 ? 11 : from;
        made.put(cycle * 10 + bus, new int[] {0, source, source == 11 ? operations.get(i)[4] : 0, to});
        placed.add(new int[] {i, role, cycle});
    }

    // ---- the FAULTS of moves made together

    private List<int[]> made(int cycle, boolean[] bits) {
        List<int[]> found = new ArrayList<>();
        for (int bus = 0; bus < buses; bus++) {
            int[] move = code.get(cycle * 10 + bus);
            if (move != null && (move[0] == 0 || (move[0] < 5 ? bits[move[0] - 1] : !bits[move[0] - 5]))) {
                found.add(move);
            }
        }
        return found;
    }

    private static int triggerUnit(int destination) {
        if (destination == 11 || destination == 12 || destination >= 16 && destination <= 23) {
            return 0;
        }
        return destination == 13 ? 1 : destination == 14 || destination == 15 ? 2 : -1;
    }

    private static int fault(List<int[]> moves, boolean[] had, boolean jumping) {
        Set<Integer> read = new HashSet<>();
        Set<Integer> written = new HashSet<>();
        for (int i = 0; i < moves.size(); i++) {
            for (int j = 0; j < i; j++) {
                int one = moves.get(i)[3];
                int other = moves.get(j)[3];
                boolean units = triggerUnit(one) >= 0 && triggerUnit(one) == triggerUnit(other);
                if (one == other || units || one + other == 24 + 25 && Math.max(one, other) == 25) {
                    return 1;
                }
            }
        }
        for (int[] move : moves) {
            if (move[1] >= 8 && move[1] <= 10 && !had[move[1] - 8]) {
                return 2;
            }
        }
        for (int[] move : moves) {
            if (move[3] == 24 && jumping) {
                return 3;
            }
            if (move[1] < 8) {
                read.add(move[1]);
            }
            if (move[3] < 8) {
                written.add(move[3]);
            }
        }
        return read.size() > 2 || written.size() > 1 ? 4 : 0;
    }

    // ---- the judge: a state is {pc, cycles since JUMP (0 none), its target, cycles since the first begin by units (0 none)}

    int judge() {
        Set<List<Integer>> seen = new HashSet<>();
        ArrayDeque<List<Integer>> open = new ArrayDeque<>();
        Map<Integer, Integer> wrong = new TreeMap<>();
        List<Integer> first = List.of(0, 0, 0, 0, 0, 0);
        seen.add(first);
        open.add(first);
        while (!open.isEmpty()) {
            List<Integer> state = open.remove();
            for (int bits = 0; bits < 16; bits++) {
                boolean[] g = {(bits & 1) != 0, (bits & 2) != 0, (bits & 4) != 0, (bits & 8) != 0};
                List<Integer> next = judgeCycle(state, made(state.get(0), g), wrong);
                if (next != null && seen.add(next)) {
                    open.add(next);
                }
            }
        }
        int least = -1;
        judgedFault = 0;
        for (Map.Entry<Integer, Integer> entry : wrong.entrySet()) {
            if (least == -1) {
                least = entry.getKey();
                judgedFault = entry.getValue();
            }
        }
        return least;
    }

    private List<Integer> judgeCycle(List<Integer> state, List<int[]> moves, Map<Integer, Integer> wrong) {
        int at = state.get(0);
        boolean[] had = new boolean[3];
        int[] since = new int[3];
        for (int u = 0; u < 3; u++) {
            since[u] = state.get(3 + u);
            had[u] = since[u] >= latency[u];
        }
        int sinceJump = state.get(1) == 0 ? 0 : state.get(1) + 1;
        int target = state.get(2);
        int found = fault(moves, had, state.get(1) > 0);
        boolean ends = false;
        for (int[] move : moves) {
            if (move[3] == 24) {
                found = found == 0 && move[1] != 11 ? 5 : found;
                sinceJump = 1;
                target = Math.floorMod(move[2], 64);
            }
            ends = ends || move[3] == 25;
            int begun = move[3] >= 11 && move[3] <= 14 ? triggerUnit(move[3]) : -1;
            if (begun >= 0 && since[begun] == 0) {
                since[begun] = -1;
            }
        }
        if (found != 0) {
            wrong.merge(at, found, Math::min);
            return null;
        }
        for (int u = 0; u < 3; u++) {
            since[u] = since[u] == -1 ? 1 : since[u] == 0 ? 0 : Math.min(since[u] + 1, 9);
        }
        boolean lands = sinceJump == 3;
        int next = lands ? target : (at + 1) % 64;
        return ends ? null : List.of(next, lands ? 0 : sinceJump, lands ? 0 : target * Math.min(1, sinceJump),
                since[0], since[1], since[2]);
    }

    int fault(int what) {
        return what == 0 ? judgedFault : what == 1 ? runFault : -1;
    }

    // ---- the processor

    void reset() {
        time = 0;
        pc = 0;
        halted = false;
        jumpTime = LONG_AGO;
        underWay.clear();
        for (int i = 0; i < 4; i++) {
            guards[i] = false;
        }
        for (int u = 0; u < 3; u++) {
            operands[u] = 0;
            results[u] = null;
        }
    }

    int run(int n) {
        if (n < 0 || n > 1000) {
            throw new IllegalArgumentException();
        }
        runFault = 0;
        int count = 0;
        while (count < n && !halted) {
            List<int[]> moves = made(pc, guards);
            boolean[] had = {results[0] != null, results[1] != null, results[2] != null};
            runFault = fault(moves, had, time - jumpTime <= 2);
            if (runFault != 0) {
                break;
            }
            cycle(moves);
            count++;
        }
        return count;
    }

    private void cycle(List<int[]> moves) {
        int[] values = new int[moves.size()];
        for (int i = 0; i < values.length; i++) {
            int source = moves.get(i)[1];
            values[i] = source < 8 ? words[source] : source < 11 ? results[source - 8] : moves.get(i)[2];
        }
        for (int i = 0; i < values.length; i++) {
            int to = moves.get(i)[3];
            if (to < 8) {
                words[to] = values[i];
            } else if (to < 11) {
                operands[to - 8] = values[i];
            }
        }
        for (int i = 0; i < values.length; i++) {
            trigger(moves.get(i)[3], values[i]);
        }
        for (int[] coming : underWay) {
            if (coming[0] == time) {
                results[coming[1]] = coming[2];
            }
        }
        pc = time - jumpTime == 2 ? jumpTo : (pc + 1) % 64;
        time++;
    }

    private void trigger(int to, int x) {
        switch (to) {
            case 11: underWay.add(new int[] {time, 0, operands[0] + x}); break;
            case 12: underWay.add(new int[] {time, 0, operands[0] - x}); break;
            case 13: underWay.add(new int[] {time + latency[1] - 1, 1, operands[1] * x}); break;
            case 14: underWay.add(new int[] {time + latency[2] - 1, 2, words[8 + Math.floorMod(x, 64)]}); break;
            case 15: words[8 + Math.floorMod(operands[2], 64)] = x; break;
            case 24: jumpTime = time; jumpTo = Math.floorMod(x, 64); break;
            case 25: halted = true; break;
            default:
                if (to >= 16 && to < 20) {
                    guards[to - 16] = operands[0] == x;
                } else if (to >= 20) {
                    guards[to - 20] = operands[0] < x;
                }
        }
    }

    void poke(int k, int v) {
        checkPlace(k);
        words[k] = v;
    }

    int peek(int k) {
        checkPlace(k);
        return words[k];
    }

    private static void checkPlace(int k) {
        if (k < 0 || k > 71) {
            throw new IndexOutOfBoundsException();
        }
    }

    int state(int what) {
        if (what < 0 || what > 15) {
            return 0;
        }
        int[] all = new int[16];
        all[0] = pc;
        all[1] = halted ? 1 : 0;
        for (int g = 0; g < 4; g++) {
            all[2 + g] = guards[g] ? 1 : 0;
        }
        for (int u = 0; u < 3; u++) {
            all[6 + u] = operands[u];
            all[9 + u] = results[u] == null ? 0 : 1;
            all[12 + u] = results[u] == null ? 0 : results[u];
        }
        all[15] = Math.max(0, 3 - (time - jumpTime));
        return all[what];
    }

    int done(int k) {
        checkPlace(k);
        int[] copy = words.clone();
        for (int[] o : operations) {
            int a = o[2] == 8 ? o[4] : copy[o[2]];
            int b = o[3] == 8 ? o[4] : copy[o[3]];
            if (o[0] == 4) {
                copy[8 + Math.floorMod(a, 64)] = b;
            } else {
                copy[o[1]] = o[0] == 0 ? a + b : o[0] == 1 ? a - b : o[0] == 2 ? a * b : copy[8 + Math.floorMod(a, 64)];
            }
        }
        return copy[k];
    }
}
