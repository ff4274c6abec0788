/** Promise 12: run. */
public final class Promise12RunTest {
    private static final int LEAST = Integer.MIN_VALUE;
    private static final int MOST = Integer.MAX_VALUE;

    public static void main(String[] args) {
        tooFewAndTooMany();
        noCycle();
        asManyAsMayBe();
        refusedCallsChangeNothing();
        untilHalted();
        haltedAlready();
        untilAFault();
        theFaultyCycleIsNotMade();
        noCode();
        behindTheLastCycle();
        jumpsModulo();
        jumpsBehindTheLastCycle();
        jumpsAndHalt();
        sourcesAreReadAtTheBeginning();
        triggersSeeTheOperandOfTheirCycle();
        resultsComeInTheirOrder();
        loadsReadWhereTheyBegin();
        numbersWrap();
        addressesWrap();
        comparisons();
        guardsLetMovesBe();
        inPieces();
        Check.end();
    }

    private static void tooFewAndTooMany() {
        Check.sentence("IllegalArgumentException: n is not 0 .. 1000.");
        MoveDesk desk = new MoveDesk(2, 1, 1);
        for (int n : new int[] {-1, -2, 1001, 1002, LEAST, MOST}) {
            Check.fails("run(" + n + ")", IllegalArgumentException.class, () -> desk.run(n));
        }
        Ports.constant(desk, 0, 0, 0, Ports.HALT);
        desk.run(1);
        Check.fails("run(-1) when HALTED", IllegalArgumentException.class, () -> desk.run(-1));
        Check.fails("run(1001) when HALTED", IllegalArgumentException.class, () -> desk.run(1001));
    }

    private static void noCycle() {
        Check.sentence("At most n cycles are made (n = 0)");
        MoveDesk desk = new MoveDesk(2, 1, 1);
        Ports.constant(desk, 0, 0, 5, 1);
        Check.same("run(0)", desk.run(0), 0);
        Check.same("state(0)", desk.state(0), 0);
        Check.same("peek(1)", desk.peek(1), 0);
        Ports.port(desk, 0, 0, Ports.RESULT, 1);
        Check.same("run(0) ahead of a FAULT", desk.run(0), 0);
        Check.same("fault(1)", desk.fault(1), 0);
    }

    private static void asManyAsMayBe() {
        Check.sentence("At most n cycles are made (n = 1000): how many were.");
        MoveDesk desk = new MoveDesk(2, 1, 1);
        Check.same("run(1000)", desk.run(1000), 1000);
        Check.same("state(0)", desk.state(0), 1000 % 64);
        Check.same("run(999)", desk.run(999), 999);
        Check.same("state(0)", desk.state(0), 1999 % 64);
        Check.same("run(1)", desk.run(1), 1);
        Check.same("state(0)", desk.state(0), 2000 % 64);
        Check.same("fault(1)", desk.fault(1), 0);
    }

    private static void refusedCallsChangeNothing() {
        Check.sentence("IllegalArgumentException: n is not 0 .. 1000.");
        MoveDesk desk = new MoveDesk(2, 1, 1);
        Ports.constant(desk, 0, 0, 5, 1);
        Check.fails("run(-1)", IllegalArgumentException.class, () -> desk.run(-1));
        Check.fails("run(1001)", IllegalArgumentException.class, () -> desk.run(1001));
        Check.same("state(0)", desk.state(0), 0);
        Check.same("peek(1)", desk.peek(1), 0);
        Ports.port(desk, 0, 0, Ports.RESULT, 1);
        Check.same("run(1)", desk.run(1), 0);
        Check.fails("run(1001)", IllegalArgumentException.class, () -> desk.run(1001));
        Check.same("fault(1)", desk.fault(1), 2);
    }

    private static void untilHalted() {
        Check.sentence("At most n cycles are made, until HALTED: how many were.");
        for (int n = 4; n <= 7; n++) {
            MoveDesk desk = new MoveDesk(2, 1, 1);
            Ports.constant(desk, 5, 0, 0, Ports.HALT);
            Ports.constant(desk, 5, 1, 7, 1);
            Ports.constant(desk, 6, 1, 8, 2);
            Check.same("run(" + n + ")", desk.run(n), Math.min(n, 6));
            Check.same("state(1)", desk.state(1), n < 6 ? 0 : 1);
            Check.same("state(0)", desk.state(0), Math.min(n, 6));
            Check.same("the cycle of HALT is made", desk.peek(1), n < 6 ? 0 : 7);
            Check.same("the one behind it is not", desk.peek(2), 0);
        }
    }

    private static void haltedAlready() {
        Check.sentence("until HALTED");
        MoveDesk desk = new MoveDesk(3, 4, 1);
        Ports.meet(desk, 0, 1, 6, Ports.MULTIPLY, 7);
        Ports.constant(desk, 0, 2, 0, Ports.HALT);
        Check.same("run(1000)", desk.run(1000), 1);
        Check.same("run(1000) again", desk.run(1000), 0);
        Check.same("run(0) again", desk.run(0), 0);
        Check.same("state(0)", desk.state(0), 1);
        Check.same("the product comes no more", desk.state(10), 0);
        desk.clear();
        Check.same("run(1) of no code", desk.run(1), 0);
    }

    private static void untilAFault() {
        Check.sentence("or a FAULT is found: how many were");
        for (int n = 0; n <= 6; n++) {
            MoveDesk desk = new MoveDesk(2, 1, 1);
            Ports.port(desk, 4, 0, Ports.RESULT, 1);
            Check.same("run(" + n + ")", desk.run(n), Math.min(n, 4));
            Check.same("fault(1)", desk.fault(1), n < 5 ? 0 : 2);
            Check.same("state(0)", desk.state(0), Math.min(n, 4));
        }
        MoveDesk first = new MoveDesk(2, 1, 1);
        Ports.port(first, 0, 0, Ports.RESULT, 1);
        Check.same("run(1000)", first.run(1000), 0);
        MoveDesk last = new MoveDesk(2, 1, 1);
        Ports.port(last, 63, 1, Ports.RESULT, 1);
        Check.same("run(1000)", last.run(1000), 63);
    }

    private static void theFaultyCycleIsNotMade() {
        Check.sentence("FAULTS, found before a cycle is made, which is not made then");
        MoveDesk desk = new MoveDesk(4, 3, 1);
        Ports.meet(desk, 0, 1, 6, Ports.MULTIPLY, 7);
        Ports.constant(desk, 0, 2, 40, Ports.JUMP);
        Ports.constant(desk, 1, 0, 5, 0);
        Ports.constant(desk, 1, 1, 6, 1);
        Ports.constant(desk, 1, 2, 6, 8);
        Ports.constant(desk, 1, 3, 0, Ports.HALT);
        for (int round = 0; round < 3; round++) {
            Check.same("run(9)", desk.run(9), round == 0 ? 1 : 0);
            Check.same("peek(0)", desk.peek(0), 0);
            Check.same("peek(1)", desk.peek(1), 0);
            Check.same("state(6)", desk.state(6), 0);
            Check.same("state(0)", desk.state(0), 1);
            Check.same("state(1)", desk.state(1), 0);
            Check.same("state(10)", desk.state(10), 0);
            Check.same("state(15)", desk.state(15), 2);
        }
        desk.move(1, 1, Ports.ifOne(3), Ports.CONSTANT, 6, 1);
        desk.free(1, 3);
        Check.same("run(2) without the FAULT", desk.run(2), 2);
        Check.same("fault(1)", desk.fault(1), 0);
        Check.same("peek(0)", desk.peek(0), 5);
        Check.same("state(0)", desk.state(0), 40);
        Check.same("state(13)", desk.state(13), 42);
    }

    private static void noCode() {
        Check.sentence("PC becomes one more else");
        MoveDesk desk = new MoveDesk(2, 1, 1);
        for (int made = 1; made <= 130; made++) {
            Check.same("run(1)", desk.run(1), 1);
            Check.same("state(0)", desk.state(0), made % 64);
        }
    }

    private static void behindTheLastCycle() {
        Check.sentence("PC becomes one more else, 0 behind 63.");
        MoveDesk desk = new MoveDesk(3, 1, 1);
        Ports.port(desk, 0, 0, 1, Ports.OPERAND);
        Ports.constant(desk, 0, 1, 1, Ports.ADD);
        Ports.port(desk, 63, 0, Ports.RESULT, 1);
        Check.same("run(63)", desk.run(63), 63);
        Check.same("state(0)", desk.state(0), 63);
        Check.same("run(1)", desk.run(1), 1);
        Check.same("state(0)", desk.state(0), 0);
        Check.same("peek(1)", desk.peek(1), 1);
        Check.same("run(640)", desk.run(640), 640);
        Check.same("peek(1)", desk.peek(1), 11);
        Ports.constant(desk, 63, 1, 0, Ports.HALT);
        Check.same("run(1000)", desk.run(1000), 64);
        Check.same("state(0) behind HALT at 63", desk.state(0), 0);
        Check.same("state(1)", desk.state(1), 1);
    }

    private static void jumpsModulo() {
        Check.sentence("JUMP: the two cycles behind this one are made, then PC is x modulo 64");
        int[][] given = {{0, 0}, {1, 1}, {3, 3}, {63, 63}, {64, 0}, {65, 1}, {127, 63}, {-1, 63}, {-64, 0}, {-65, 63},
            {LEAST, 0}, {LEAST + 1, 1}, {MOST, 63}};
        for (int[] pair : given) {
            for (int source : new int[] {11, 5}) {
                MoveDesk desk = new MoveDesk(2, 1, 1);
                desk.poke(5, pair[0]);
                desk.move(0, 0, 0, source, pair[0], Ports.JUMP);
                Ports.constant(desk, 1, 1, 7, 2);
                Ports.constant(desk, 2, 1, 8, 3);
                Ports.constant(desk, 3, 1, 9, 4);
                int[][] due = {{1, 2}, {2, 1}, {pair[1], 0}};
                for (int[] step : due) {
                    Check.same("run(1)", desk.run(1), 1);
                    Check.same("JUMP of " + pair[0] + ": state(0)", desk.state(0), step[0]);
                    Check.same("JUMP of " + pair[0] + ": state(15)", desk.state(15), step[1]);
                }
                Check.same("first behind", desk.peek(2), 7);
                Check.same("second behind", desk.peek(3), 8);
                Check.same("third behind", desk.peek(4), 0);
            }
        }
    }

    private static void jumpsBehindTheLastCycle() {
        Check.sentence("JUMP: the two cycles behind this one are made (0 behind 63)");
        for (int cycle = 61; cycle <= 63; cycle++) {
            MoveDesk desk = new MoveDesk(2, 1, 1);
            desk.run(cycle);
            Ports.constant(desk, cycle, 0, 20, Ports.JUMP);
            int[] due = {(cycle + 1) % 64, (cycle + 2) % 64, 20, 21};
            for (int pc : due) {
                desk.run(1);
                Check.same("JUMP at " + cycle + ": state(0)", desk.state(0), pc);
            }
        }
    }

    private static void jumpsAndHalt() {
        Check.sentence("HALT: behind this cycle it is HALTED.");
        MoveDesk desk = new MoveDesk(2, 1, 1);
        Ports.constant(desk, 0, 0, 40, Ports.JUMP);
        Ports.constant(desk, 2, 0, 0, Ports.HALT);
        Check.same("run(9) with HALT two behind JUMP", desk.run(9), 3);
        Check.same("state(0)", desk.state(0), 40);
        Check.same("state(1)", desk.state(1), 1);
        Check.same("state(15)", desk.state(15), 0);
        desk.reset();
        Ports.constant(desk, 1, 0, 0, Ports.HALT);
        Check.same("run(9) with HALT one behind JUMP", desk.run(9), 2);
        Check.same("state(0)", desk.state(0), 2);
        Check.same("state(1)", desk.state(1), 1);
        Check.same("state(15)", desk.state(15), 1);
    }

    private static void sourcesAreReadAtTheBeginning() {
        Check.sentence("All sources are read as they are at its beginning.");
        MoveDesk desk = new MoveDesk(3, 1, 1);
        desk.poke(0, 5);
        Ports.constant(desk, 0, 0, 9, 0);
        Ports.port(desk, 0, 1, 0, Ports.OPERAND);
        Ports.constant(desk, 0, 2, 1, Ports.ADD);
        Ports.port(desk, 1, 0, Ports.RESULT, 1);
        Ports.constant(desk, 1, 1, 100, Ports.OPERAND);
        Ports.port(desk, 1, 2, Ports.RESULT, Ports.SUBTRACT);
        desk.run(1);
        Check.same("register 0", desk.peek(0), 9);
        Check.same("operand 0", desk.state(6), 5);
        Check.same("result 0", desk.state(12), 6);
        desk.run(1);
        Check.same("register 1", desk.peek(1), 6);
        Check.same("result 0 then", desk.state(12), 94);
    }

    private static void triggersSeeTheOperandOfTheirCycle() {
        Check.sentence("registers and operands get what was moved to them; then, by buses, triggers do what they do");
        MoveDesk desk = new MoveDesk(4, 1, 1);
        Ports.constant(desk, 0, 0, 3, Ports.SUBTRACT);
        Ports.constant(desk, 0, 1, 10, Ports.OPERAND);
        Ports.constant(desk, 0, 2, 7, Ports.MULTIPLY);
        Ports.constant(desk, 0, 3, -6, Ports.OPERAND + 1);
        Ports.constant(desk, 1, 0, 4, Ports.ADD);
        Ports.constant(desk, 2, 0, 55, Ports.STORE);
        Ports.constant(desk, 2, 1, 9, Ports.OPERAND + 2);
        desk.run(1);
        Check.same("10 - 3", desk.state(12), 7);
        Check.same("-6 * 7", desk.state(13), -42);
        Check.same("operand 1", desk.state(7), -6);
        desk.run(1);
        Check.same("10 + 4, the operand stays", desk.state(12), 14);
        desk.run(1);
        Check.same("word 9", desk.peek(8 + 9), 55);
    }

    private static void resultsComeInTheirOrder() {
        Check.sentence("RESULT at the end of the cycle LATENCY - 1 behind this one (in the order in which they began)");
        for (int latency = 1; latency <= 4; latency++) {
            MoveDesk desk = new MoveDesk(2, latency, 1);
            for (int cycle = 0; cycle < 6; cycle++) {
                Ports.meet(desk, cycle, 1, cycle + 1, Ports.MULTIPLY, 10);
            }
            for (int made = 1; made <= 11; made++) {
                desk.run(1);
                int come = Math.max(0, Math.min(made - latency + 1, 6));
                Check.same("product behind " + made, desk.state(13), come * 10);
                Check.same("has one behind " + made, desk.state(10), come == 0 ? 0 : 1);
            }
            Check.same("adder has none", desk.state(9), 0);
            Check.same("memory has none", desk.state(11), 0);
        }
    }

    private static void loadsReadWhereTheyBegin() {
        Check.sentence("load the word at x: each becomes the unit's RESULT");
        MoveDesk desk = new MoveDesk(2, 1, 3);
        desk.poke(8 + 4, 11);
        Ports.constant(desk, 0, 0, 4, Ports.LOAD);
        Ports.meet(desk, 1, 2, 4, Ports.STORE, 22);
        Ports.constant(desk, 2, 0, 4, Ports.LOAD);
        desk.run(2);
        Check.same("word", desk.peek(12), 22);
        Check.same("none yet", desk.state(11), 0);
        desk.run(1);
        Check.same("what it was", desk.state(14), 11);
        desk.run(1);
        Check.same("a store has no result", desk.state(14), 11);
        desk.run(1);
        Check.same("what it is", desk.state(14), 22);
    }

    private static void numbersWrap() {
        Check.sentence("32-bit numbers.");
        int[][] given = {{Ports.ADD, MOST, 1, LEAST}, {Ports.ADD, LEAST, LEAST, 0}, {Ports.ADD, LEAST, -1, MOST},
            {Ports.SUBTRACT, LEAST, 1, MOST}, {Ports.SUBTRACT, 0, LEAST, LEAST}, {Ports.SUBTRACT, MOST, -1, LEAST},
            {Ports.MULTIPLY, 65536, 65536, 0}, {Ports.MULTIPLY, 65537, 65537, 131073},
            {Ports.MULTIPLY, LEAST, -1, LEAST}, {Ports.MULTIPLY, MOST, MOST, 1}};
        for (int[] row : given) {
            MoveDesk desk = new MoveDesk(2, 1, 1);
            int unit = row[0] == Ports.MULTIPLY ? 1 : 0;
            Ports.meet(desk, 0, unit, row[1], row[0], row[2]);
            Ports.port(desk, 1, 0, Ports.RESULT + unit, 3);
            desk.run(2);
            Check.same("trigger " + row[0] + " of " + row[1] + " and " + row[2], desk.peek(3), row[3]);
        }
    }

    private static void addressesWrap() {
        Check.sentence("MEMORY: 64 words; addresses count modulo 64.");
        int[][] given = {{0, 0}, {63, 63}, {64, 0}, {65, 1}, {127, 63}, {-1, 63}, {-64, 0}, {-65, 63}, {LEAST, 0},
            {LEAST + 1, 1}, {MOST, 63}};
        for (int[] pair : given) {
            MoveDesk desk = new MoveDesk(2, 1, 1);
            Ports.meet(desk, 0, 2, pair[0], Ports.STORE, 8);
            Ports.constant(desk, 1, 0, pair[0], Ports.LOAD);
            desk.run(1);
            Check.same("store at " + pair[0], desk.peek(8 + pair[1]), 8);
            Check.same("operand 2", desk.state(8), pair[0]);
            desk.poke(8 + pair[1], 9);
            desk.run(1);
            Check.same("load at " + pair[0], desk.state(14), 9);
            Check.same("registers 7", desk.peek(7), 0);
        }
    }

    private static void comparisons() {
        Check.sentence("EQUAL, LESS: the guard becomes 1 if o = x, o < x, else 0.");
        int[][] cases = {{5, 5}, {4, 5}, {5, 4}, {LEAST, MOST}, {MOST, LEAST}, {LEAST, LEAST}, {MOST, MOST}, {-1, 0},
            {0, -1}, {LEAST, 1}, {1, LEAST}, {MOST, -1}};
        for (int guard = 0; guard < 4; guard++) {
            MoveDesk desk = new MoveDesk(2, 1, 1);
            for (int[] pair : cases) {
                compare(desk, Ports.EQUAL + guard, pair);
                Check.same(pair[0] + " = " + pair[1], desk.state(2 + guard), pair[0] == pair[1] ? 1 : 0);
                compare(desk, Ports.LESS + guard, pair);
                Check.same(pair[0] + " < " + pair[1], desk.state(2 + guard), pair[0] < pair[1] ? 1 : 0);
                for (int other = 1; other < 4; other++) {
                    Check.same("other guard", desk.state(2 + (guard + other) % 4), 0);
                }
                Check.same("no result", desk.state(9), 0);
            }
        }
    }

    private static void compare(MoveDesk desk, int trigger, int[] pair) {
        Ports.meet(desk, desk.state(0), 0, pair[0], trigger, pair[1]);
        desk.run(1);
    }

    private static void guardsLetMovesBe() {
        Check.sentence("a guard (0 none, 1 + g: made if guard g is 1, 5 + g: if it is 0)");
        for (int guard = 0; guard < 4; guard++) {
            MoveDesk desk = new MoveDesk(4, 1, 1);
            Ports.constant(desk, 0, 0, 0, Ports.EQUAL + guard);
            desk.move(0, 1, Ports.ifOne(guard), Ports.CONSTANT, 1, 0);
            desk.move(0, 2, Ports.ifZero(guard), Ports.CONSTANT, 2, 1);
            desk.run(1);
            Check.same("guard is 0 in its cycle", desk.peek(0) * 10 + desk.peek(1), 2);
            desk.move(1, 0, Ports.ifOne(guard), Ports.CONSTANT, 3, 2);
            desk.move(1, 1, Ports.ifZero(guard), Ports.CONSTANT, 4, 3);
            desk.move(1, 2, Ports.ifOne((guard + 1) % 4), Ports.CONSTANT, 5, 4);
            desk.run(1);
            Check.same("guard is 1 behind it", desk.peek(2) * 100 + desk.peek(3) * 10 + desk.peek(4), 300);
        }
    }

    private static void inPieces() {
        Check.sentence("At most n cycles are made: how many were.");
        for (int n = 1; n <= 7; n++) {
            MoveDesk desk = new MoveDesk(2, 4, 3);
            desk.operation(2, 0, 8, 8, 7);
            desk.operation(3, 1, 8, 0, 1);
            desk.operation(0, 2, 0, 1, 0);
            desk.poke(9, 5);
            int halt = desk.compile();
            int made = 0;
            for (int call = 0; call < 20; call++) {
                made += desk.run(n);
            }
            Check.same("run(" + n + ") often", made, halt + 1);
            Check.same("peek(2)", desk.peek(2), 54);
        }
    }
}
