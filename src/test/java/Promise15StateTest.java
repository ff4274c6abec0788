/** Promise 15: state. */
public final class Promise15StateTest {
    private static final int LEAST = Integer.MIN_VALUE;
    private static final int MOST = Integer.MAX_VALUE;

    public static void main(String[] args) {
        anotherWhat();
        pc();
        halted();
        guards();
        operands();
        unitsWithResult();
        resultsWithout();
        resultsOfZero();
        cyclesUntilAJumpIsDone();
        noJump();
        askingChangesNothing();
        Check.end();
    }

    /** Its every part but 1 is something else than 0. */
    private static MoveDesk busy() {
        MoveDesk desk = new MoveDesk(4, 1, 1);
        desk.poke(8, 9);
        for (int guard = 0; guard < 4; guard++) {
            Ports.constant(desk, guard, 0, 0, Ports.EQUAL + guard);
        }
        Ports.meet(desk, 4, 0, 20, Ports.ADD, 3);
        Ports.constant(desk, 4, 2, 30, Ports.OPERAND + 1);
        Ports.constant(desk, 4, 3, 2, Ports.MULTIPLY);
        Ports.constant(desk, 5, 0, 40, Ports.OPERAND + 2);
        Ports.constant(desk, 5, 1, 64, Ports.LOAD);
        Ports.constant(desk, 5, 2, 7, Ports.JUMP);
        desk.run(6);
        return desk;
    }

    private static void anotherWhat() {
        Check.sentence("0 for another what.");
        MoveDesk desk = busy();
        for (int what : new int[] {-1, -2, 16, 17, 31, 32, 64, LEAST, MOST}) {
            Check.same("state(" + what + ")", desk.state(what), 0);
        }
        int[] due = {6, 0, 1, 1, 1, 1, 20, 30, 40, 1, 1, 1, 23, 60, 9, 2};
        for (int what = 0; what < 16; what++) {
            Check.same("state(" + what + ")", desk.state(what), due[what]);
        }
    }

    private static void pc() {
        Check.sentence("PC (0)");
        MoveDesk desk = new MoveDesk(2, 1, 1);
        int[] due = {0, 1, 62, 63, 0, 1};
        int[] runs = {0, 1, 61, 1, 1, 1};
        for (int i = 0; i < 6; i++) {
            desk.run(runs[i]);
            Check.same("state(0)", desk.state(0), due[i]);
        }
    }

    private static void halted() {
        Check.sentence("1 if it is HALTED, else 0 (1)");
        MoveDesk desk = new MoveDesk(2, 1, 1);
        Ports.constant(desk, 1, 0, 77, Ports.HALT);
        desk.run(1);
        Check.same("state(1) ahead", desk.state(1), 0);
        desk.run(1);
        Check.same("state(1) behind", desk.state(1), 1);
        Check.same("state(0) behind", desk.state(0), 2);
        desk.run(1);
        Check.same("state(1) still", desk.state(1), 1);
        Check.same("state(0) still", desk.state(0), 2);
        MoveDesk fault = new MoveDesk(2, 1, 1);
        Ports.port(fault, 0, 0, Ports.RESULT, 0);
        fault.run(1);
        Check.same("state(1) at a FAULT", fault.state(1), 0);
    }

    private static void guards() {
        Check.sentence("guards 0 to 3 (2 to 5)");
        for (int guard = 0; guard < 4; guard++) {
            MoveDesk desk = new MoveDesk(2, 1, 1);
            Ports.meet(desk, 0, 0, 5, Ports.LESS + guard, 6);
            Ports.meet(desk, 1, 0, 5, Ports.LESS + guard, 5);
            desk.run(1);
            for (int what = 2; what <= 5; what++) {
                Check.same("state(" + what + ")", desk.state(what), what == 2 + guard ? 1 : 0);
            }
            desk.run(1);
            Check.same("state(" + (2 + guard) + ") then", desk.state(2 + guard), 0);
        }
    }

    private static void operands() {
        Check.sentence("operands of units (6 to 8)");
        for (int unit = 0; unit < 3; unit++) {
            MoveDesk desk = new MoveDesk(2, 1, 1);
            int[] numbers = {LEAST, MOST, -1, 0};
            for (int i = 0; i < 4; i++) {
                Ports.constant(desk, i, 0, numbers[i], Ports.OPERAND + unit);
                desk.run(1);
                for (int what = 6; what <= 8; what++) {
                    Check.same("state(" + what + ")", desk.state(what), what == 6 + unit ? numbers[i] : 0);
                }
            }
        }
    }

    private static void unitsWithResult() {
        Check.sentence("1 if a unit has had a result, else 0 (9 to 11)");
        for (int unit = 0; unit < 3; unit++) {
            for (int given = 1; given <= 4; given++) {
                int latency = unit == 0 ? 1 : unit == 1 ? given : Math.min(3, given);
                MoveDesk desk = new MoveDesk(2, given, given);
                Ports.constant(desk, 0, 0, 1, Ports.BEGIN[unit]);
                for (int made = 0; made <= 6; made++) {
                    for (int what = 9; what <= 11; what++) {
                        Check.same("state(" + what + ") behind " + made, desk.state(what),
                                what == 9 + unit && made >= latency ? 1 : 0);
                    }
                    desk.run(1);
                }
            }
        }
    }

    private static void resultsWithout() {
        Check.sentence("RESULTS (12 to 14; 0 without)");
        for (int unit = 0; unit < 3; unit++) {
            MoveDesk desk = new MoveDesk(2, 3, 3);
            desk.poke(8 + 9, 5);
            Ports.meet(desk, 0, unit, 5, Ports.BEGIN[unit], 9);
            int latency = unit == 0 ? 1 : 3;
            int due = unit == 0 ? 14 : unit == 1 ? 45 : 5;
            for (int made = 0; made <= 5; made++) {
                for (int what = 12; what <= 14; what++) {
                    Check.same("state(" + what + ") behind " + made, desk.state(what),
                            what == 12 + unit && made >= latency ? due : 0);
                }
                desk.run(1);
            }
            desk.reset();
            Check.same("state(" + (12 + unit) + ") behind reset()", desk.state(12 + unit), 0);
        }
    }

    private static void resultsOfZero() {
        Check.sentence("1 if a unit has had a result (though it is 0)");
        MoveDesk desk = new MoveDesk(2, 1, 1);
        Ports.meet(desk, 0, 0, 5, Ports.SUBTRACT, 5);
        desk.run(1);
        Check.same("state(9)", desk.state(9), 1);
        Check.same("state(12)", desk.state(12), 0);
    }

    private static void cyclesUntilAJumpIsDone() {
        Check.sentence("cycles until a JUMP under way is done, 0 without (15)");
        MoveDesk desk = new MoveDesk(2, 1, 1);
        Ports.constant(desk, 0, 0, 10, Ports.JUMP);
        Ports.constant(desk, 10, 0, 20, Ports.JUMP);
        int[] due = {0, 2, 1, 0, 2, 1, 0, 0};
        for (int made = 0; made < 8; made++) {
            Check.same("state(15) behind " + made, desk.state(15), due[made]);
            desk.run(1);
        }
    }

    private static void noJump() {
        Check.sentence("0 without (15)");
        MoveDesk desk = new MoveDesk(2, 1, 1);
        desk.move(0, 0, Ports.ifOne(0), Ports.CONSTANT, 10, Ports.JUMP);
        desk.run(1);
        Check.same("state(15) of a JUMP that is not made", desk.state(15), 0);
        Ports.constant(desk, 1, 0, 10, Ports.JUMP);
        Ports.constant(desk, 1, 1, 10, Ports.HALT);
        desk.run(1);
        Check.same("state(15) of a JUMP with a FAULT", desk.state(15), 0);
    }

    private static void askingChangesNothing() {
        Check.sentence("0 for another what.");
        MoveDesk desk = busy();
        for (int round = 0; round < 2; round++) {
            for (int what = -1; what <= 16; what++) {
                desk.state(what);
            }
        }
        Check.same("state(0)", desk.state(0), 6);
        Check.same("state(15)", desk.state(15), 2);
        Check.same("run(2)", desk.run(2), 2);
        Check.same("state(0) then", desk.state(0), 7);
    }
}
