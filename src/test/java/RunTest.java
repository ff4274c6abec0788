/** Promises 10 to 15: fault(1), reset, run, poke, peek, state. */
public final class RunTest {
    public static void main(String[] args) {
        places();
        runsOfWrongLength();
        emptyCodeGoesRound();
        sourcesAreReadAtTheBeginning();
        triggersSeeTheOperandOfTheirCycle();
        resultsComeInTheirOrder();
        loadsReadWhereTheyBegin();
        storesAndAddresses();
        comparisons();
        guardsLetMovesBe();
        jumps();
        haltsAndJumps();
        resets();
        clashes();
        faultsBehindClashes();
        faultsStopTheRun();
        theLeastFaultIsTold();
        Check.end();
    }

    private static void places() {
        MoveDesk desk = new MoveDesk(2, 1, 1);
        for (int k = 0; k < 72; k++) {
            desk.poke(k, 1000 - 17 * k);
        }
        for (int k = 0; k < 72; k++) {
            Check.same("peek(" + k + ")", desk.peek(k), 1000 - 17 * k);
        }
        for (int k : new int[] {-1, 72, Integer.MIN_VALUE, Integer.MAX_VALUE}) {
            Check.fails("peek(" + k + ")", IndexOutOfBoundsException.class, () -> desk.peek(k));
            Check.fails("poke(" + k + ", 1)", IndexOutOfBoundsException.class, () -> desk.poke(k, 1));
        }
    }

    private static void runsOfWrongLength() {
        MoveDesk desk = new MoveDesk(2, 1, 1);
        for (int n : new int[] {-1, 1001, Integer.MIN_VALUE, Integer.MAX_VALUE}) {
            Check.fails("run(" + n + ")", IllegalArgumentException.class, () -> desk.run(n));
        }
        Check.same("state(0)", desk.state(0), 0);
        Check.same("run(0)", desk.run(0), 0);
        Check.same("run(1000)", desk.run(1000), 1000);
    }

    private static void emptyCodeGoesRound() {
        MoveDesk desk = new MoveDesk(2, 1, 1);
        Check.same("run(63)", desk.run(63), 63);
        Check.same("PC", desk.state(0), 63);
        Check.same("run(1)", desk.run(1), 1);
        Check.same("PC behind 63", desk.state(0), 0);
        Check.same("fault(1)", desk.fault(1), 0);
        Check.same("fault(2)", desk.fault(2), -1);
        Check.same("fault(-1)", desk.fault(-1), -1);
    }

    private static void sourcesAreReadAtTheBeginning() {
        MoveDesk desk = new MoveDesk(3, 1, 1);
        desk.poke(0, 5);
        Ports.constant(desk, 0, 0, 9, 0);
        Ports.port(desk, 0, 1, 0, Ports.OPERAND);
        Ports.constant(desk, 0, 2, 1, Ports.ADD);
        Ports.port(desk, 1, 0, Ports.RESULT, 1);
        Ports.constant(desk, 1, 1, 100, Ports.OPERAND);
        Ports.port(desk, 1, 2, Ports.RESULT, Ports.SUBTRACT);
        desk.run(1);
        Check.same("register 0", desk.peek(0), 9);
        Check.same("operand 0", desk.state(6), 5);
        Check.same("result 0", desk.state(12), 6);
        desk.run(1);
        Check.same("register 1", desk.peek(1), 6);
        Check.same("result 0 then", desk.state(12), 94);
    }

    private static void triggersSeeTheOperandOfTheirCycle() {
        MoveDesk desk = new MoveDesk(4, 1, 1);
        Ports.constant(desk, 0, 0, 3, Ports.SUBTRACT);
        Ports.constant(desk, 0, 1, 10, Ports.OPERAND);
        Ports.constant(desk, 0, 2, 7, Ports.MULTIPLY);
        Ports.constant(desk, 0, 3, -6, Ports.OPERAND + 1);
        Ports.constant(desk, 1, 0, 4, Ports.ADD);
        desk.run(1);
        Check.same("10 - 3", desk.state(12), 7);
        Check.same("-6 * 7", desk.state(13), -42);
        Check.same("operand 1", desk.state(7), -6);
        desk.run(1);
        Check.same("10 + 4, the operand stays", desk.state(12), 14);
    }

    private static void resultsComeInTheirOrder() {
        MoveDesk desk = new MoveDesk(2, 4, 3);
        for (int cycle = 0; cycle < 6; cycle++) {
            Ports.constant(desk, cycle, 0, cycle + 1, Ports.OPERAND + 1);
            Ports.constant(desk, cycle, 1, 10, Ports.MULTIPLY);
        }
        for (int cycle = 0; cycle < 10; cycle++) {
            desk.run(1);
            int due = cycle < 3 ? 0 : Math.min(cycle - 2, 6) * 10;
            Check.same("product behind cycle " + cycle, desk.state(13), due);
            Check.same("has one behind cycle " + cycle, desk.state(10), cycle < 3 ? 0 : 1);
        }
        Check.same("adder has none", desk.state(9), 0);
        Check.same("memory has none", desk.state(11), 0);
    }

    private static void loadsReadWhereTheyBegin() {
        MoveDesk desk = new MoveDesk(2, 1, 3);
        desk.poke(8 + 4, 11);
        Ports.constant(desk, 0, 0, 4, Ports.LOAD);
        Ports.constant(desk, 1, 0, 4, Ports.OPERAND + 2);
        Ports.constant(desk, 1, 1, 22, Ports.STORE);
        Ports.constant(desk, 2, 0, 4, Ports.LOAD);
        desk.run(2);
        Check.same("word", desk.peek(12), 22);
        Check.same("none yet", desk.state(11), 0);
        desk.run(1);
        Check.same("what it was", desk.state(14), 11);
        desk.run(1);
        Check.same("a store has no result", desk.state(14), 11);
        desk.run(1);
        Check.same("what it is", desk.state(14), 22);
    }

    private static void storesAndAddresses() {
        MoveDesk desk = new MoveDesk(2, 1, 1);
        Ports.constant(desk, 0, 0, -1, Ports.OPERAND + 2);
        Ports.constant(desk, 0, 1, 8, Ports.STORE);
        Ports.constant(desk, 1, 0, 64 + 63, Ports.LOAD);
        desk.run(1);
        Check.same("word 63", desk.peek(71), 8);
        Check.same("no result of a store", desk.state(11), 0);
        desk.run(1);
        Check.same("loaded", desk.state(14), 8);
        Check.same("operand 2", desk.state(8), -1);
    }

    private static void comparisons() {
        int[][] cases = {{5, 5}, {4, 5}, {5, 4}, {Integer.MIN_VALUE, Integer.MAX_VALUE},
            {Integer.MAX_VALUE, Integer.MIN_VALUE}, {-1, 0}};
        for (int guard = 0; guard < 4; guard++) {
            MoveDesk desk = new MoveDesk(2, 1, 1);
            for (int[] pair : cases) {
                compare(desk, Ports.EQUAL + guard, pair);
                Check.same("equal", desk.state(2 + guard), pair[0] == pair[1] ? 1 : 0);
                compare(desk, Ports.LESS + guard, pair);
                Check.same("less", desk.state(2 + guard), pair[0] < pair[1] ? 1 : 0);
                Check.same("other guard", desk.state(2 + (guard + 1) % 4), 0);
                Check.same("no result", desk.state(9), 0);
            }
        }
    }

    private static void compare(MoveDesk desk, int trigger, int[] pair) {
        int cycle = desk.state(0);
        Ports.constant(desk, cycle, 0, pair[0], Ports.OPERAND);
        Ports.constant(desk, cycle, 1, pair[1], trigger);
        desk.run(1);
    }

    private static void guardsLetMovesBe() {
        for (int guard = 0; guard < 4; guard++) {
            MoveDesk desk = new MoveDesk(4, 1, 1);
            Ports.constant(desk, 0, 0, 0, Ports.EQUAL + guard);
            desk.move(0, 1, Ports.ifOne(guard), Ports.CONSTANT, 1, 0);
            desk.move(0, 2, Ports.ifZero(guard), Ports.CONSTANT, 2, 1);
            desk.run(1);
            Check.same("guard is 0 in its cycle", desk.peek(0) * 10 + desk.peek(1), 2);
            desk.move(1, 0, Ports.ifOne(guard), Ports.CONSTANT, 3, 2);
            desk.move(1, 1, Ports.ifZero(guard), Ports.CONSTANT, 4, 3);
            desk.move(1, 2, Ports.ifOne((guard + 1) % 4), Ports.CONSTANT, 5, 4);
            desk.run(1);
            Check.same("guard is 1 behind it", desk.peek(2) * 100 + desk.peek(3) * 10 + desk.peek(4), 300);
        }
    }

    private static void jumps() {
        MoveDesk desk = new MoveDesk(2, 1, 1);
        desk.poke(1, -3);
        Ports.port(desk, 0, 0, 1, Ports.JUMP);
        Ports.constant(desk, 1, 0, 7, 2);
        Ports.constant(desk, 2, 0, 8, 3);
        Ports.constant(desk, 3, 0, 9, 4);
        Ports.constant(desk, 61, 0, 64 + 62, Ports.JUMP);
        int[][] due = {{1, 2}, {2, 1}, {61, 0}, {62, 2}, {63, 1}, {62, 0}, {63, 0}, {0, 0}};
        for (int[] pair : due) {
            desk.run(1);
            Check.same("PC", desk.state(0), pair[0]);
            Check.same("cycles until", desk.state(15), pair[1]);
        }
        Check.same("first behind", desk.peek(2), 7);
        Check.same("second behind", desk.peek(3), 8);
        Check.same("third behind", desk.peek(4), 0);
    }

    private static void haltsAndJumps() {
        MoveDesk desk = new MoveDesk(2, 1, 1);
        Ports.constant(desk, 63, 0, 0, Ports.HALT);
        Ports.constant(desk, 63, 1, 5, 7);
        Check.same("run(100)", desk.run(100), 64);
        Check.same("PC", desk.state(0), 0);
        Check.same("HALTED", desk.state(1), 1);
        Check.same("the cycle of HALT is made", desk.peek(7), 5);
        Check.same("run(1) then", desk.run(1), 0);
        desk.reset();
        Ports.constant(desk, 0, 0, 40, Ports.JUMP);
        Ports.constant(desk, 2, 0, 0, Ports.HALT);
        Check.same("HALT two behind JUMP", desk.run(9), 3);
        Check.same("PC is there", desk.state(0), 40);
        desk.reset();
        Ports.constant(desk, 1, 0, 0, Ports.HALT);
        Check.same("HALT one behind JUMP", desk.run(9), 2);
        Check.same("PC is not there", desk.state(0), 2);
        Check.same("JUMP under way", desk.state(15), 1);
    }

    private static void resets() {
        MoveDesk desk = new MoveDesk(4, 4, 1);
        Ports.constant(desk, 0, 0, 3, Ports.OPERAND);
        Ports.constant(desk, 0, 1, 3, Ports.EQUAL + 2);
        Ports.constant(desk, 0, 2, 9, 5);
        Ports.constant(desk, 0, 3, 2, Ports.LOAD);
        Ports.constant(desk, 1, 0, 3, Ports.ADD);
        Ports.constant(desk, 1, 1, 3, Ports.MULTIPLY);
        Ports.constant(desk, 1, 2, 30, Ports.JUMP);
        desk.poke(10, 4);
        desk.run(2);
        desk.reset();
        for (int what = 0; what < 16; what++) {
            Check.same("reset state(" + what + ")", desk.state(what), 0);
        }
        Check.same("register stays", desk.peek(5), 9);
        Check.same("word stays", desk.peek(10), 4);
        Check.same("code stays", desk.moveAt(1, 2, 3), Ports.JUMP);
        desk.clear();
        Check.same("run(9)", desk.run(9), 9);
        Check.same("no JUMP comes", desk.state(0), 9);
        Check.same("no product comes", desk.state(10), 0);
        Ports.constant(desk, 9, 0, 0, Ports.HALT);
        desk.run(1);
        Check.same("HALTED", desk.state(1), 1);
        desk.reset();
        Check.same("not HALTED", desk.state(1), 0);
        Check.same("run(5)", desk.run(5), 5);
    }

    private static void clashes() {
        for (int one = 0; one < 26; one++) {
            for (int other = 0; other < 26; other++) {
                MoveDesk desk = new MoveDesk(2, 1, 1);
                Ports.constant(desk, 0, 0, 1, one);
                Ports.constant(desk, 0, 1, 1, other);
                int due = one < 8 && other < 8 && one != other ? 4 : group(one) == group(other) ? 1 : 0;
                Check.same("run of " + one + " with " + other, desk.run(1), due == 0 ? 1 : 0);
                Check.same("fault of " + one + " with " + other, desk.fault(1), due);
            }
        }
    }

    private static int group(int destination) {
        if (destination < Ports.ADD) {
            return destination;
        }
        switch (destination) {
            case Ports.MULTIPLY:
                return 101;
            case Ports.LOAD:
            case Ports.STORE:
                return 102;
            case Ports.JUMP:
            case Ports.HALT:
                return 103;
            default:
                return 100;
        }
    }

    private static void faultsBehindClashes() {
        for (int unit = 0; unit < 3; unit++) {
            MoveDesk desk = new MoveDesk(2, 1, 1);
            Ports.port(desk, 1, 0, Ports.RESULT + unit, 0);
            Check.same("run(5) to no result", desk.run(5), 1);
            Check.same("fault(1)", desk.fault(1), 2);
            desk.reset();
            Ports.constant(desk, 0, 0, 3, new int[] {Ports.ADD, Ports.MULTIPLY, Ports.LOAD}[unit]);
            Check.same("run(5) with a result", desk.run(5), 5);
        }
        for (int between = 1; between <= 3; between++) {
            MoveDesk desk = new MoveDesk(2, 1, 1);
            Ports.constant(desk, 0, 0, 3, Ports.JUMP);
            Ports.constant(desk, between, 0, 3, Ports.JUMP);
            Check.same("run(5) with JUMPS", desk.run(5), between < 3 ? between : 5);
            Check.same("fault(1)", desk.fault(1), between < 3 ? 3 : 0);
        }
        MoveDesk desk = new MoveDesk(4, 1, 1);
        Ports.port(desk, 0, 0, 1, 1);
        Ports.port(desk, 0, 1, 1, 8);
        Ports.port(desk, 0, 2, 2, 9);
        Ports.port(desk, 0, 3, 2, 10);
        Check.same("two registers", desk.run(1), 1);
        desk.reset();
        Ports.port(desk, 0, 3, 7, 10);
        Check.same("three registers", desk.run(1), 0);
        Check.same("fault(1)", desk.fault(1), 4);
    }

    private static void faultsStopTheRun() {
        MoveDesk desk = new MoveDesk(3, 1, 1);
        Ports.constant(desk, 2, 0, 5, 0);
        Ports.constant(desk, 2, 1, 6, 1);
        Ports.constant(desk, 2, 2, 6, 8);
        Check.same("run(2) ends ahead of it", desk.run(2), 2);
        Check.same("fault(1)", desk.fault(1), 0);
        Check.same("run(0) finds none", desk.run(0), 0);
        Check.same("fault(1)", desk.fault(1), 0);
        Check.same("run(1) finds it", desk.run(1), 0);
        Check.same("fault(1)", desk.fault(1), 4);
        Check.same("not made", desk.peek(0) + desk.peek(1) + desk.state(6), 0);
        Check.same("PC stays", desk.state(0), 2);
        Check.fails("run(-1)", IllegalArgumentException.class, () -> desk.run(-1));
        Check.same("fault(1) stays", desk.fault(1), 4);
        desk.move(2, 1, Ports.ifOne(3), Ports.CONSTANT, 6, 1);
        Check.same("run(1) with the guard", desk.run(1), 1);
        Check.same("fault(1)", desk.fault(1), 0);
        Check.same("fault(0)", desk.fault(0), 0);
    }

    private static void theLeastFaultIsTold() {
        MoveDesk desk = new MoveDesk(4, 1, 1);
        Ports.constant(desk, 0, 0, 9, Ports.JUMP);
        Ports.port(desk, 1, 0, Ports.RESULT, Ports.JUMP);
        Ports.port(desk, 1, 1, 1, 1);
        Ports.port(desk, 1, 2, 1, 1);
        expectFault(desk, 1);
        Ports.port(desk, 1, 2, 1, 2);
        expectFault(desk, 2);
        Ports.port(desk, 1, 0, 3, Ports.JUMP);
        expectFault(desk, 3);
        desk.free(0, 0);
        expectFault(desk, 4);
    }

    private static void expectFault(MoveDesk desk, int due) {
        desk.reset();
        Check.same("run(5)", desk.run(5), 1);
        Check.same("fault(1)", desk.fault(1), due);
    }
}
