/** A processor that can only move, with its compiler and its judge; ../shared/DOC.md says what each call must do. */
public final class MoveDesk {
    public static final int NONE = -1;

    private static final int CYCLES = 64;
    private static final int LAST_CYCLE = CYCLES - 1;
    private static final int MOST_BUSES = 4;
    private static final int UNITS = 3;
    private static final int ALL_UNITS = 7;
    private static final int GUARD_SETTINGS = 16;

    private static final int REGISTERS = 8;
    private static final int MEMORY_WORDS = 64;
    private static final int PLACES = REGISTERS + MEMORY_WORDS;

    private static final int LAST_GUARD = 8;
    private static final int RESULT = 8;
    private static final int CONSTANT = 11;
    private static final int LAST_SOURCE = CONSTANT;

    private static final int OPERAND = 8;
    private static final int ADD = 11;
    private static final int SUBTRACT = 12;
    private static final int MULTIPLY = 13;
    private static final int LOAD = 14;
    private static final int STORE = 15;
    private static final int EQUAL = 16;
    private static final int LESS = 20;
    private static final int JUMP = 24;
    private static final int HALT = 25;
    private static final int LAST_DESTINATION = HALT;

    private static final int ADDER = 0;
    private static final int MULTIPLIER = 1;
    private static final int MEMORY = 2;

    private static final int CLASH = 1;
    private static final int NO_RESULT = 2;
    private static final int JUMP_BEHIND_JUMP = 3;
    private static final int TOO_MANY_REGISTERS = 4;
    private static final int JUMP_ANYWHERE = 5;

    private static final int MOST_CYCLES_A_RUN = 1000;
    private static final int MOST_OPERATIONS = 20;
    private static final int LOAD_KIND = 3;
    private static final int STORE_KIND = 4;

    private final Code code;
    private final Machine machine;
    private final Operations operations;
    private final Planner planner;
    private final Judge judge;
    private int judgedFault;
    private int runFault;

    public MoveDesk(int buses, int multiply, int load) {
        int[] latency = new int[UNITS];
        latency[ADDER] = 1;
        latency[MULTIPLIER] = Math.max(1, Math.min(4, multiply));
        latency[MEMORY] = Math.max(1, Math.min(3, load));
        code = new Code(Math.max(2, Math.min(MOST_BUSES, buses)));
        machine = new Machine(code, latency);
        operations = new Operations();
        planner = new Planner(code, operations, latency);
        judge = new Judge(code, latency);
        judgedFault = 0;
        runFault = 0;
    }

    public void move(int cycle, int bus, int guard, int source, int constant, int destination)
            throws IndexOutOfBoundsException, IllegalArgumentException {
        if (!code.reaches(cycle, bus)) {
            throw new IndexOutOfBoundsException();
        }
        if (!isWithin(guard, LAST_GUARD) || !isWithin(source, LAST_SOURCE)
                || !isWithin(destination, LAST_DESTINATION)) {
            throw new IllegalArgumentException();
        }
        code.put(cycle, bus, guard, source, constant, destination);
    }

    public boolean free(int cycle, int bus) throws IndexOutOfBoundsException {
        if (!code.reaches(cycle, bus)) {
            throw new IndexOutOfBoundsException();
        }
        return code.drop(cycle, bus);
    }

    public int moveAt(int cycle, int bus, int what) {
        return code.reaches(cycle, bus) && code.isTaken(cycle, bus) ? code.part(cycle, bus, what) : NONE;
    }

    public void clear() {
        code.erase();
    }

    public int operation(int kind, int d, int a, int b, int c)
            throws IllegalArgumentException, IllegalStateException {
        if (!operations.mayBe(kind, d, a, b)) {
            throw new IllegalArgumentException();
        }
        if (operations.count() >= MOST_OPERATIONS) {
            throw new IllegalStateException();
        }
        operations.append(kind, d, a, b, c);
        return operations.count();
    }

    public int forget() {
        return operations.drop();
    }

    public int compile() throws UnsupportedOperationException {
        int halt = planner.plan();
        if (halt == NONE) {
            throw new UnsupportedOperationException();
        }
        planner.write(halt);
        return halt;
    }

    public int judge() {
        int cycle = judge.leastWrongCycle();
        judgedFault = judge.leastFault();
        return cycle;
    }

    public int fault(int what) {
        switch (what) {
            case 0:
                return judgedFault;
            case 1:
                return runFault;
            default:
                return NONE;
        }
    }

    public void reset() {
        machine.restart();
    }

    public int run(int n) throws IllegalArgumentException {
        if (!isWithin(n, MOST_CYCLES_A_RUN)) {
            throw new IllegalArgumentException();
        }
        runFault = 0;
        for (int made = 0; made < n; made++) {
            if (machine.isHalted()) {
                return made;
            }
            runFault = machine.tryCycle();
            if (runFault != 0) {
                return made;
            }
        }
        return n;
    }

    public void poke(int k, int v) throws IndexOutOfBoundsException {
        if (!isPlace(k)) {
            throw new IndexOutOfBoundsException();
        }
        machine.words[k] = v;
    }

    public int peek(int k) throws IndexOutOfBoundsException {
        if (!isPlace(k)) {
            throw new IndexOutOfBoundsException();
        }
        return machine.words[k];
    }

    public int state(int what) {
        return machine.show(what);
    }

    public int done(int k) throws IndexOutOfBoundsException {
        if (!isPlace(k)) {
            throw new IndexOutOfBoundsException();
        }
        return operations.valueBehind(machine.words, k);
    }

    private static boolean isWithin(int number, int last) {
        return number >= 0 && number <= last;
    }

    private static boolean isPlace(int k) {
        return isWithin(k, PLACES - 1);
    }

    private static int memoryPlace(int address) {
        return REGISTERS + (address & (MEMORY_WORDS - 1));
    }

    private static int wrapCycle(int cycle) {
        return cycle & LAST_CYCLE;
    }

    /** The moves, by cycles and buses. */
    private static final class Code {
        private final int buses;
        private final int[] taken = new int[CYCLES];
        private final int[] guards = new int[CYCLES * MOST_BUSES];
        private final int[] sources = new int[CYCLES * MOST_BUSES];
        private final int[] constants = new int[CYCLES * MOST_BUSES];
        private final int[] destinations = new int[CYCLES * MOST_BUSES];

        Code(int buses) {
            this.buses = buses;
        }

        boolean reaches(int cycle, int bus) {
            return cycle >= 0 && cycle < CYCLES && bus >= 0 && bus < buses;
        }

        boolean isTaken(int cycle, int bus) {
            return (taken[cycle] >> bus & 1) != 0;
        }

        void put(int cycle, int bus, int guard, int source, int constant, int destination) {
            int at = cycle * MOST_BUSES + bus;
            taken[cycle] |= 1 << bus;
            guards[at] = guard;
            sources[at] = source;
            constants[at] = constant;
            destinations[at] = destination;
        }

        void putOnLowestBus(int cycle, int source, int constant, int destination) {
            for (int bus = 0; bus < buses; bus++) {
                if (!isTaken(cycle, bus)) {
                    put(cycle, bus, 0, source, constant, destination);
                    return;
                }
            }
        }

        boolean drop(int cycle, int bus) {
            boolean had = isTaken(cycle, bus);
            taken[cycle] &= ~(1 << bus);
            return had;
        }

        void erase() {
            for (int cycle = 0; cycle < CYCLES; cycle++) {
                taken[cycle] = 0;
            }
        }

        int part(int cycle, int bus, int what) {
            switch (what) {
                case 0:
                    return guards[cycle * MOST_BUSES + bus];
                case 1:
                    return source(cycle, bus);
                case 2:
                    return constant(cycle, bus);
                case 3:
                    return destination(cycle, bus);
                default:
                    return NONE;
            }
        }

        int source(int cycle, int bus) {
            return sources[cycle * MOST_BUSES + bus];
        }

        int constant(int cycle, int bus) {
            return constants[cycle * MOST_BUSES + bus];
        }

        int destination(int cycle, int bus) {
            return destinations[cycle * MOST_BUSES + bus];
        }

        /** The set of the buses, as bits, whose moves are made with these guards. */
        int madeWith(int cycle, int guardBits) {
            int made = taken[cycle];
            if (made == 0) {
                return 0;
            }
            for (int bus = 0; bus < buses; bus++) {
                if (!allows(guards[cycle * MOST_BUSES + bus], guardBits)) {
                    made &= ~(1 << bus);
                }
            }
            return made;
        }

        private static boolean allows(int guard, int guardBits) {
            if (guard == 0) {
                return true;
            }
            return guard < 5 ? (guardBits >> guard - 1 & 1) == 1 : (guardBits >> guard - 5 & 1) == 0;
        }
    }

    /** What the moves made together in a cycle are: machine and judge both ask here, so that their FAULTS are the same. */
    private static final class Bundle {
        // The triggers of one unit count as one target, and JUMP with HALT too: so one test finds every clash.
        private static final int[] TARGETS = {
            0, 1, 2, 3, 4, 5, 6, 7, 8, 9, 10,
            11, 11, 12, 13, 13, 11, 11, 11, 11, 11, 11, 11, 11, 14, 14
        };

        private int targets;
        private boolean clashes;
        private int registersRead;
        private int resultsRead;
        private int begun;
        private int jumpBus;
        private boolean jumpsAnywhere;
        private boolean halts;

        void gather(Code code, int cycle, int made) {
            targets = 0;
            clashes = false;
            registersRead = 0;
            resultsRead = 0;
            begun = 0;
            jumpBus = NONE;
            jumpsAnywhere = false;
            halts = false;
            for (int bus = 0; made >> bus != 0 && bus < MOST_BUSES; bus++) {
                if ((made >> bus & 1) != 0) {
                    takeSource(code.source(cycle, bus));
                    takeDestination(code.destination(cycle, bus));
                    takeJump(bus, code.source(cycle, bus), code.destination(cycle, bus));
                }
            }
        }

        private void takeSource(int source) {
            if (source < REGISTERS) {
                registersRead |= 1 << source;
            } else if (source < CONSTANT) {
                resultsRead |= 1 << source - RESULT;
            }
        }

        private void takeDestination(int destination) {
            int target = 1 << TARGETS[destination];
            clashes = clashes || (targets & target) != 0;
            targets |= target;
            halts = halts || destination == HALT;
            if (destination == ADD || destination == SUBTRACT) {
                begun |= 1 << ADDER;
            } else if (destination == MULTIPLY) {
                begun |= 1 << MULTIPLIER;
            } else if (destination == LOAD) {
                begun |= 1 << MEMORY;
            }
        }

        private void takeJump(int bus, int source, int destination) {
            if (destination == JUMP) {
                jumpBus = bus;
                jumpsAnywhere = jumpsAnywhere || source != CONSTANT;
            }
        }

        /** The least FAULT, 0 if there is none: unitsWithResult are bits, jumping says that a JUMP is under way. */
        int leastFault(int unitsWithResult, boolean jumping) {
            if (clashes) {
                return CLASH;
            }
            if ((resultsRead & ~unitsWithResult) != 0) {
                return NO_RESULT;
            }
            if (jumping && jumpBus != NONE) {
                return JUMP_BEHIND_JUMP;
            }
            int registersWritten = targets & (1 << REGISTERS) - 1;
            if (Integer.bitCount(registersRead) > 2 || Integer.bitCount(registersWritten) > 1) {
                return TOO_MANY_REGISTERS;
            }
            return 0;
        }
    }

    /** The processor at work. */
    private static final class Machine {
        // As many as the greatest latency: a result begun now has gone from its slot before the slot comes again.
        private static final int SLOTS = 4;
        // A JUMP's own cycle and the two behind it.
        private static final int JUMP_SPAN = 3;

        private final Code code;
        private final int[] latency;
        private final Bundle bundle = new Bundle();
        private final int[] words = new int[PLACES];
        private final int[] operands = new int[UNITS];
        private final int[] results = new int[UNITS];
        private final int[] carried = new int[MOST_BUSES];
        private final int[] coming = new int[UNITS * SLOTS];
        private int comingSet;
        private int slot;
        private int unitsWithResult;
        private int guards;
        private int pc;
        private int jumpLeft;
        private int jumpTarget;
        private boolean halted;

        Machine(Code code, int[] latency) {
            this.code = code;
            this.latency = latency;
        }

        void restart() {
            for (int unit = 0; unit < UNITS; unit++) {
                operands[unit] = 0;
                results[unit] = 0;
            }
            comingSet = 0;
            slot = 0;
            unitsWithResult = 0;
            guards = 0;
            pc = 0;
            jumpLeft = 0;
            jumpTarget = 0;
            halted = false;
        }

        boolean isHalted() {
            return halted;
        }

        int show(int what) {
            if (what == 0) {
                return pc;
            }
            if (what == 1) {
                return halted ? 1 : 0;
            }
            if (what >= 2 && what <= 5) {
                return guards >> what - 2 & 1;
            }
            if (what >= 6 && what <= 8) {
                return operands[what - 6];
            }
            if (what >= 9 && what <= 11) {
                return unitsWithResult >> what - 9 & 1;
            }
            if (what >= 12 && what <= 14) {
                return results[what - 12];
            }
            return what == 15 ? jumpLeft : 0;
        }

        /** Makes the cycle at PC and answers 0, or answers its FAULT and leaves all as it is. */
        int tryCycle() {
            int made = code.madeWith(pc, guards);
            if (made != 0) {
                bundle.gather(code, pc, made);
                int fault = bundle.leastFault(unitsWithResult, jumpLeft > 0);
                if (fault != 0) {
                    return fault;
                }
                readSources(made);
                writePlaces(made);
                pullTriggers(made);
            }
            deliverResults();
            stepOn();
            return 0;
        }

        private static boolean has(int made, int bus) {
            return (made >> bus & 1) != 0;
        }

        private void readSources(int made) {
            for (int bus = 0; bus < MOST_BUSES; bus++) {
                if (has(made, bus)) {
                    carried[bus] = valueOf(code.source(pc, bus), code.constant(pc, bus));
                }
            }
        }

        private int valueOf(int source, int constant) {
            if (source < REGISTERS) {
                return words[source];
            }
            return source < CONSTANT ? results[source - RESULT] : constant;
        }

        private void writePlaces(int made) {
            for (int bus = 0; bus < MOST_BUSES; bus++) {
                int destination = has(made, bus) ? code.destination(pc, bus) : ADD;
                if (destination < REGISTERS) {
                    words[destination] = carried[bus];
                } else if (destination < ADD) {
                    operands[destination - OPERAND] = carried[bus];
                }
            }
        }

        private void pullTriggers(int made) {
            for (int bus = 0; bus < MOST_BUSES; bus++) {
                if (has(made, bus)) {
                    pull(code.destination(pc, bus), carried[bus]);
                }
            }
        }

        private void pull(int trigger, int x) {
            if (trigger == ADD) {
                begin(ADDER, operands[ADDER] + x);
            } else if (trigger == SUBTRACT) {
                begin(ADDER, operands[ADDER] - x);
            } else if (trigger == MULTIPLY) {
                begin(MULTIPLIER, operands[MULTIPLIER] * x);
            } else if (trigger == LOAD) {
                begin(MEMORY, words[memoryPlace(x)]);
            } else if (trigger == STORE) {
                words[memoryPlace(operands[MEMORY])] = x;
            } else if (trigger >= EQUAL && trigger < LESS) {
                setGuard(trigger - EQUAL, operands[ADDER] == x);
            } else if (trigger >= LESS && trigger < JUMP) {
                setGuard(trigger - LESS, operands[ADDER] < x);
            } else if (trigger == JUMP) {
                jumpLeft = JUMP_SPAN;
                jumpTarget = wrapCycle(x);
            } else if (trigger == HALT) {
                halted = true;
            }
        }

        private void begin(int unit, int value) {
            int at = unit * SLOTS + (slot + latency[unit] - 1) % SLOTS;
            coming[at] = value;
            comingSet |= 1 << at;
        }

        private void setGuard(int guard, boolean on) {
            guards = on ? guards | 1 << guard : guards & ~(1 << guard);
        }

        private void deliverResults() {
            for (int unit = 0; comingSet != 0 && unit < UNITS; unit++) {
                int at = unit * SLOTS + slot;
                if ((comingSet >> at & 1) != 0) {
                    comingSet &= ~(1 << at);
                    results[unit] = coming[at];
                    unitsWithResult |= 1 << unit;
                }
            }
            slot = (slot + 1) % SLOTS;
        }

        private void stepOn() {
            pc = wrapCycle(pc + 1);
            if (jumpLeft > 0) {
                jumpLeft--;
                if (jumpLeft == 0) {
                    pc = jumpTarget;
                }
            }
        }
    }

    /** The three-address operations. */
    private static final class Operations {
        private static final int OPERAND_CONSTANT = 8;

        private final int[] kinds = new int[MOST_OPERATIONS];
        private final int[] targets = new int[MOST_OPERATIONS];
        private final int[] firsts = new int[MOST_OPERATIONS];
        private final int[] seconds = new int[MOST_OPERATIONS];
        private final int[] constants = new int[MOST_OPERATIONS];
        private final int[] copy = new int[PLACES];
        private int count;

        boolean mayBe(int kind, int d, int a, int b) {
            return isWithin(kind, STORE_KIND)
                    && isWithin(d, kind == STORE_KIND ? 0 : REGISTERS - 1)
                    && isWithin(a, OPERAND_CONSTANT)
                    && isWithin(b, kind == LOAD_KIND ? 0 : OPERAND_CONSTANT);
        }

        int count() {
            return count;
        }

        void append(int kind, int d, int a, int b, int c) {
            kinds[count] = kind;
            targets[count] = d;
            firsts[count] = a;
            seconds[count] = b;
            constants[count] = c;
            count++;
        }

        int drop() {
            int had = count;
            count = 0;
            return had;
        }

        int unit(int i) {
            if (kinds[i] < 2) {
                return ADDER;
            }
            return kinds[i] == 2 ? MULTIPLIER : MEMORY;
        }

        int trigger(int i) {
            return ADD + kinds[i];
        }

        boolean isLoad(int i) {
            return kinds[i] == LOAD_KIND;
        }

        boolean isStore(int i) {
            return kinds[i] == STORE_KIND;
        }

        int target(int i) {
            return targets[i];
        }

        int firstSource(int i) {
            return sourceOf(firsts[i]);
        }

        /** What goes to the trigger: a load has it from its a, as its b is nothing. */
        int triggerSource(int i) {
            return sourceOf(isLoad(i) ? firsts[i] : seconds[i]);
        }

        int constantFor(int i, int source) {
            return source == CONSTANT ? constants[i] : 0;
        }

        /** The registers that it reads, as bits. */
        int registersRead(int i) {
            return registerBit(firstSource(i)) | registerBit(triggerSource(i));
        }

        private static int sourceOf(int operand) {
            return operand == OPERAND_CONSTANT ? CONSTANT : operand;
        }

        private static int registerBit(int source) {
            return source < REGISTERS ? 1 << source : 0;
        }

        /** What place k is behind all operations, done on a copy of these words. */
        int valueBehind(int[] words, int k) {
            System.arraycopy(words, 0, copy, 0, PLACES);
            for (int i = 0; i < count; i++) {
                perform(i);
            }
            return copy[k];
        }

        private void perform(int i) {
            int a = valueOf(firsts[i], constants[i]);
            int b = valueOf(seconds[i], constants[i]);
            switch (kinds[i]) {
                case 0:
                    copy[targets[i]] = a + b;
                    break;
                case 1:
                    copy[targets[i]] = a - b;
                    break;
                case 2:
                    copy[targets[i]] = a * b;
                    break;
                case LOAD_KIND:
                    copy[targets[i]] = copy[memoryPlace(a)];
                    break;
                default:
                    copy[memoryPlace(a)] = b;
                    break;
            }
        }

        private int valueOf(int operand, int constant) {
            return operand == OPERAND_CONSTANT ? constant : copy[operand];
        }
    }

    /** The compiler: it plans all cycles first and writes then, as the code stays if there is no plan. */
    private static final class Planner {
        private final Code code;
        private final Operations operations;
        private final int[] latency;
        private final int[] busesUsed = new int[CYCLES];
        private final int[] registersRead = new int[CYCLES];
        private final boolean[] hasResultMove = new boolean[CYCLES];
        private final int[] latestWrite = new int[REGISTERS];
        private final int[] latestRead = new int[REGISTERS];
        private final int[] latestTrigger = new int[UNITS];
        private final int[] latestResultMove = new int[UNITS];
        private final int[] triggerCycles = new int[MOST_OPERATIONS];
        private final int[] resultCycles = new int[MOST_OPERATIONS];

        Planner(Code code, Operations operations, int[] latency) {
            this.code = code;
            this.operations = operations;
            this.latency = latency;
        }

        /** The cycle of HALT, NONE if the operations need too many cycles. */
        int plan() {
            start();
            int halt = 0;
            for (int i = 0; i < operations.count(); i++) {
                int last = planOne(i);
                if (last == NONE) {
                    return NONE;
                }
                halt = Math.max(halt, last + 1);
            }
            return halt <= LAST_CYCLE ? halt : NONE;
        }

        private void start() {
            for (int cycle = 0; cycle < CYCLES; cycle++) {
                busesUsed[cycle] = 0;
                registersRead[cycle] = 0;
                hasResultMove[cycle] = false;
            }
            for (int register = 0; register < REGISTERS; register++) {
                latestWrite[register] = NONE;
                latestRead[register] = NONE;
            }
            for (int unit = 0; unit < UNITS; unit++) {
                latestTrigger[unit] = NONE;
                latestResultMove[unit] = NONE;
            }
        }

        /** The last cycle that operation i needs, NONE if that were above 63. */
        private int planOne(int i) {
            int t = triggerCycle(i);
            if (t == NONE) {
                return NONE;
            }
            // Its own reading at t binds no R of its own, which is behind t anyway: so it may be noted first.
            noteTrigger(i, t);
            if (operations.isStore(i)) {
                return t;
            }
            int r = resultCycle(i, t);
            if (r != NONE) {
                noteResult(i, r);
            }
            return r;
        }

        private int triggerCycle(int i) {
            int reads = operations.registersRead(i);
            int room = code.buses - (operations.isLoad(i) ? 1 : 2);
            for (int t = earliestTrigger(i, reads); t <= LAST_CYCLE; t++) {
                if (busesUsed[t] <= room && Integer.bitCount(registersRead[t] | reads) <= 2) {
                    return t;
                }
            }
            return NONE;
        }

        private int earliestTrigger(int i, int reads) {
            int unit = operations.unit(i);
            int earliest = latestTrigger[unit] + 1;
            for (int register = 0; register < REGISTERS; register++) {
                if ((reads >> register & 1) != 0) {
                    earliest = Math.max(earliest, latestWrite[register] + 1);
                }
            }
            if (!operations.isStore(i)) {
                earliest = Math.max(earliest, latestResultMove[unit] + 1 - latency[unit]);
            }
            return earliest;
        }

        private int resultCycle(int i, int t) {
            int register = operations.target(i);
            int earliest = Math.max(t + latency[operations.unit(i)],
                    Math.max(latestWrite[register] + 1, latestRead[register]));
            for (int r = earliest; r <= LAST_CYCLE; r++) {
                if (busesUsed[r] < code.buses && !hasResultMove[r]) {
                    return r;
                }
            }
            return NONE;
        }

        private void noteTrigger(int i, int t) {
            int reads = operations.registersRead(i);
            triggerCycles[i] = t;
            busesUsed[t] += operations.isLoad(i) ? 1 : 2;
            registersRead[t] |= reads;
            latestTrigger[operations.unit(i)] = t;
            for (int register = 0; register < REGISTERS; register++) {
                if ((reads >> register & 1) != 0) {
                    latestRead[register] = Math.max(latestRead[register], t);
                }
            }
        }

        private void noteResult(int i, int r) {
            resultCycles[i] = r;
            busesUsed[r]++;
            hasResultMove[r] = true;
            latestWrite[operations.target(i)] = r;
            latestResultMove[operations.unit(i)] = r;
        }

        void write(int halt) {
            code.erase();
            for (int i = 0; i < operations.count(); i++) {
                writeOne(i);
            }
            code.putOnLowestBus(halt, CONSTANT, 0, HALT);
        }

        private void writeOne(int i) {
            int unit = operations.unit(i);
            int first = operations.firstSource(i);
            int second = operations.triggerSource(i);
            int t = triggerCycles[i];
            if (!operations.isLoad(i)) {
                code.putOnLowestBus(t, first, operations.constantFor(i, first), OPERAND + unit);
            }
            code.putOnLowestBus(t, second, operations.constantFor(i, second), operations.trigger(i));
            if (!operations.isStore(i)) {
                code.putOnLowestBus(resultCycles[i], RESULT + unit, 0, operations.target(i));
            }
        }
    }

    /**
     * Goes all ways at once. A spot is a cycle with the JUMP under way there: 0 none, 1 + bus one that this bus of the
     * cycle ahead made, 5 + bus one of the cycle before that. At each spot stands a set of ages, as the bits of a long:
     * a unit's age is 0 ahead of its first begin, then counts the ends of cycles up to its latency, when it has a result.
     */
    private static final class Judge {
        private static final int JUMPS = 1 + 2 * MOST_BUSES;
        private static final int SPOTS = CYCLES * JUMPS;
        // Ages 0 .. 1, 0 .. 4 and 0 .. 3 of the units make one number below 40, by these steps.
        private static final int[] AGE_STEPS = {1, 2, 10};
        private static final int[] AGE_COUNTS = {2, 5, 4};
        private static final int AGES = 40;
        // Each sweep but the last one finds a new age at a spot.
        private static final int MOST_SWEEPS = SPOTS * AGES + 1;

        private final Code code;
        private final Bundle bundle = new Bundle();
        private final int[] choices = new int[CYCLES];
        private final long[] reached = new long[SPOTS];
        private final long[] fresh = new long[SPOTS];
        private final long[] unbegun = new long[UNITS];
        private final long[] withResult = new long[UNITS];
        private boolean spreads;
        private int wrongCycle;
        private int wrongFault;

        Judge(Code code, int[] latency) {
            this.code = code;
            for (int unit = 0; unit < UNITS; unit++) {
                unbegun[unit] = agesWhere(unit, 0);
                withResult[unit] = agesWhere(unit, latency[unit]);
            }
        }

        private static long agesWhere(int unit, int age) {
            long set = 0;
            for (int ages = 0; ages < AGES; ages++) {
                if (ages / AGE_STEPS[unit] % AGE_COUNTS[unit] == age) {
                    set |= 1L << ages;
                }
            }
            return set;
        }

        int leastWrongCycle() {
            start();
            for (int sweep = 0; spreads && sweep < MOST_SWEEPS; sweep++) {
                spreads = false;
                for (int spot = 0; spot < SPOTS; spot++) {
                    long ages = fresh[spot];
                    if (ages != 0) {
                        fresh[spot] = 0;
                        leave(spot / JUMPS, spot % JUMPS, ages);
                    }
                }
            }
            return wrongCycle;
        }

        int leastFault() {
            return wrongFault;
        }

        private void start() {
            for (int spot = 0; spot < SPOTS; spot++) {
                reached[spot] = 0;
                fresh[spot] = 0;
            }
            for (int cycle = 0; cycle < CYCLES; cycle++) {
                choices[cycle] = choicesIn(cycle);
            }
            wrongCycle = NONE;
            wrongFault = 0;
            reach(0, 0, 1L);
        }

        /** Which sets of buses may be made together there: bit s stands for the set s. */
        private int choicesIn(int cycle) {
            int found = 0;
            for (int guardBits = 0; guardBits < GUARD_SETTINGS; guardBits++) {
                found |= 1 << code.madeWith(cycle, guardBits);
            }
            return found;
        }

        private void reach(int cycle, int jump, long ages) {
            int spot = cycle * JUMPS + jump;
            long added = ages & ~reached[spot];
            if (added != 0) {
                reached[spot] |= added;
                fresh[spot] |= added;
                spreads = true;
            }
        }

        private void leave(int cycle, int jump, long ages) {
            for (int made = 0; made < 1 << MOST_BUSES; made++) {
                if ((choices[cycle] >> made & 1) != 0) {
                    bundle.gather(code, cycle, made);
                    leaveBy(cycle, jump, ages);
                }
            }
        }

        private void leaveBy(int cycle, int jump, long ages) {
            long able = ages;
            for (int unit = 0; unit < UNITS; unit++) {
                if ((bundle.resultsRead >> unit & 1) != 0) {
                    able &= withResult[unit];
                }
            }
            if (able != ages) {
                blame(cycle, bundle.leastFault(0, jump != 0));
            }
            if (able == 0) {
                return;
            }
            int fault = bundle.leastFault(ALL_UNITS, jump != 0);
            if (fault == 0 && bundle.jumpsAnywhere) {
                fault = JUMP_ANYWHERE;
            }
            if (fault != 0) {
                blame(cycle, fault);
            } else if (!bundle.halts) {
                goOn(cycle, jump, older(able));
            }
        }

        private void blame(int cycle, int fault) {
            if (wrongCycle == NONE || cycle < wrongCycle) {
                wrongCycle = cycle;
                wrongFault = fault;
            } else if (cycle == wrongCycle) {
                wrongFault = Math.min(wrongFault, fault);
            }
        }

        private long older(long ages) {
            long set = ages;
            for (int unit = 0; unit < UNITS; unit++) {
                long still = withResult[unit];
                if ((bundle.begun >> unit & 1) == 0) {
                    still |= unbegun[unit];
                }
                set = set & still | (set & ~still) << AGE_STEPS[unit];
            }
            return set;
        }

        private void goOn(int cycle, int jump, long ages) {
            int behind = wrapCycle(cycle + 1);
            if (jump > MOST_BUSES) {
                int jumped = wrapCycle(cycle - 2);
                reach(wrapCycle(code.constant(jumped, jump - 1 - MOST_BUSES)), 0, ages);
            } else if (jump > 0) {
                reach(behind, jump + MOST_BUSES, ages);
            } else {
                reach(behind, bundle.jumpBus == NONE ? 0 : 1 + bundle.jumpBus, ages);
            }
        }
    }
}
