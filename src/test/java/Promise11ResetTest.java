/** Promise 11: reset. */
public final class Promise11ResetTest {
    public static void main(String[] args) {
        aNewObject();
        pcIsZero();
        noUnitHasHadAResult();
        noResultIsUnderWay();
        noJumpIsUnderWay();
        guardsAreZero();
        operandsAreZero();
        itIsNotHalted();
        behindAFault();
        registersAndMemoryStay();
        codeAndOperationsStay();
        againAndAgain();
        Check.end();
    }

    private static void aNewObject() {
        Check.sentence("PC is 0, no unit has had a result, nothing is under way, guards and operands are 0");
        MoveDesk desk = new MoveDesk(2, 1, 1);
        desk.reset();
        for (int what = 0; what < 16; what++) {
            Check.same("state(" + what + ")", desk.state(what), 0);
        }
        Check.same("run(3)", desk.run(3), 3);
    }

    private static void pcIsZero() {
        Check.sentence("PC is 0");
        for (int cycle : new int[] {1, 63, 64, 100}) {
            MoveDesk desk = new MoveDesk(2, 1, 1);
            desk.run(cycle);
            desk.reset();
            Check.same("state(0)", desk.state(0), 0);
        }
    }

    private static void noUnitHasHadAResult() {
        Check.sentence("no unit has had a result");
        for (int unit = 0; unit < 3; unit++) {
            MoveDesk desk = new MoveDesk(2, 1, 1);
            desk.poke(8, 7);
            Ports.meet(desk, 0, unit, unit == 2 ? 0 : 7, Ports.BEGIN[unit], unit == 2 ? 0 : 1);
            desk.run(1);
            Check.same("state(" + (9 + unit) + ") ahead", desk.state(9 + unit), 1);
            Check.same("state(" + (12 + unit) + ") ahead", desk.state(12 + unit), unit == 0 ? 8 : 7);
            desk.reset();
            Check.same("state(" + (9 + unit) + ")", desk.state(9 + unit), 0);
            Check.same("state(" + (12 + unit) + ")", desk.state(12 + unit), 0);
            desk.clear();
            Ports.port(desk, 0, 0, Ports.RESULT + unit, 0);
            Check.same("run(1)", desk.run(1), 0);
            Check.same("fault(1)", desk.fault(1), 2);
        }
    }

    private static void noResultIsUnderWay() {
        Check.sentence("nothing is under way");
        for (int made = 1; made <= 4; made++) {
            MoveDesk desk = new MoveDesk(3, 4, 3);
            for (int cycle = 0; cycle < 4; cycle++) {
                Ports.meet(desk, cycle, 1, 6, Ports.MULTIPLY, 7);
                Ports.constant(desk, cycle, 2, 1, Ports.LOAD);
            }
            desk.run(made);
            desk.reset();
            desk.clear();
            for (int more = 0; more < 6; more++) {
                desk.run(1);
                Check.same("state(10) behind " + made + " and reset()", desk.state(10), 0);
                Check.same("state(11) behind " + made + " and reset()", desk.state(11), 0);
            }
        }
        MoveDesk desk = new MoveDesk(2, 4, 1);
        Ports.meet(desk, 0, 1, 6, Ports.MULTIPLY, 7);
        desk.run(2);
        desk.reset();
        Check.same("run(4)", desk.run(4), 4);
        Check.same("a new one comes in its own time", desk.state(13), 42);
    }

    private static void noJumpIsUnderWay() {
        Check.sentence("nothing is under way");
        for (int made = 1; made <= 2; made++) {
            MoveDesk desk = new MoveDesk(2, 1, 1);
            Ports.constant(desk, 0, 0, 40, Ports.JUMP);
            desk.run(made);
            desk.reset();
            Check.same("state(15)", desk.state(15), 0);
            Ports.constant(desk, 0, 0, 50, Ports.JUMP);
            Check.same("run(3): no JUMP is ahead of it", desk.run(3), 3);
            Check.same("state(0)", desk.state(0), 50);
            desk.reset();
            desk.clear();
            desk.run(5);
            Check.same("state(0) with no JUMP", desk.state(0), 5);
        }
    }

    private static void guardsAreZero() {
        Check.sentence("guards and operands are 0");
        MoveDesk desk = new MoveDesk(2, 1, 1);
        for (int guard = 0; guard < 4; guard++) {
            Ports.constant(desk, guard, 0, 0, Ports.EQUAL + guard);
        }
        desk.run(4);
        for (int guard = 0; guard < 4; guard++) {
            Check.same("state(" + (2 + guard) + ") ahead", desk.state(2 + guard), 1);
        }
        desk.reset();
        for (int guard = 0; guard < 4; guard++) {
            Check.same("state(" + (2 + guard) + ")", desk.state(2 + guard), 0);
        }
        desk.move(0, 0, Ports.ifZero(3), Ports.CONSTANT, 5, 1);
        desk.run(1);
        Check.same("a move if it is 0", desk.peek(1), 5);
    }

    private static void operandsAreZero() {
        Check.sentence("guards and operands are 0");
        MoveDesk desk = new MoveDesk(3, 1, 1);
        for (int unit = 0; unit < 3; unit++) {
            Ports.constant(desk, 0, unit, -5 - unit, Ports.OPERAND + unit);
        }
        desk.run(1);
        Check.same("state(8) ahead", desk.state(8), -7);
        desk.reset();
        for (int unit = 0; unit < 3; unit++) {
            Check.same("state(" + (6 + unit) + ")", desk.state(6 + unit), 0);
        }
        desk.clear();
        Ports.constant(desk, 0, 0, 9, Ports.ADD);
        Ports.constant(desk, 0, 1, 9, Ports.STORE);
        desk.run(1);
        Check.same("0 + 9", desk.state(12), 9);
        Check.same("word 0", desk.peek(8), 9);
    }

    private static void itIsNotHalted() {
        Check.sentence("it is not HALTED");
        MoveDesk desk = new MoveDesk(2, 1, 1);
        Ports.constant(desk, 2, 0, 0, Ports.HALT);
        Check.same("run(9)", desk.run(9), 3);
        Check.same("run(9) when HALTED", desk.run(9), 0);
        desk.reset();
        Check.same("state(1)", desk.state(1), 0);
        Check.same("run(9)", desk.run(9), 3);
        Check.same("state(1) again", desk.state(1), 1);
    }

    private static void behindAFault() {
        Check.sentence("PC is 0, no unit has had a result, nothing is under way");
        MoveDesk desk = new MoveDesk(2, 1, 1);
        Ports.constant(desk, 3, 0, 0, 1);
        Ports.constant(desk, 3, 1, 0, 2);
        Check.same("run(9)", desk.run(9), 3);
        desk.reset();
        Check.same("fault(1) is the latest run's", desk.fault(1), 4);
        Check.same("run(3)", desk.run(3), 3);
        Check.same("run(1)", desk.run(1), 0);
    }

    private static void registersAndMemoryStay() {
        Check.sentence("registers and MEMORY stay");
        MoveDesk desk = new MoveDesk(2, 1, 1);
        for (int k = 0; k < 72; k++) {
            desk.poke(k, 500 - k);
        }
        Ports.constant(desk, 0, 0, -1, 7);
        Ports.meet(desk, 1, 2, 63, Ports.STORE, -2);
        desk.run(2);
        desk.reset();
        for (int k = 0; k < 72; k++) {
            Check.same("peek(" + k + ")", desk.peek(k), k == 7 ? -1 : k == 71 ? -2 : 500 - k);
        }
    }

    private static void codeAndOperationsStay() {
        Check.sentence("PC is 0 .. registers and MEMORY stay (code and operations too)");
        MoveDesk desk = new MoveDesk(2, 1, 1);
        desk.move(0, 0, 1, 2, 3, 4);
        desk.move(63, 1, 5, 6, 7, 8);
        desk.operation(0, 1, 8, 8, 4);
        desk.reset();
        CodeView.expect(desk, 0, 0, 1, 2, 3, 4);
        CodeView.expect(desk, 63, 1, 5, 6, 7, 8);
        CodeView.expectCount(desk, 2, 2);
        Check.same("done(1)", desk.done(1), 8);
        Check.same("forget()", desk.forget(), 1);
    }

    private static void againAndAgain() {
        Check.sentence("PC is 0, no unit has had a result, nothing is under way");
        MoveDesk desk = new MoveDesk(2, 2, 2);
        desk.poke(0, 1);
        desk.operation(2, 0, 0, 8, 3);
        desk.compile();
        int due = 1;
        for (int round = 0; round < 15; round++) {
            desk.reset();
            desk.reset();
            Check.same("run(1000)", desk.run(1000), 4);
            due *= 3;
            Check.same("peek(0)", desk.peek(0), due);
        }
    }
}
