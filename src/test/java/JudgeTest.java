/** Promises 9 and 10: judge, fault(0). */
public final class JudgeTest {
    public static void main(String[] args) {
        nothingIsWrong();
        anyGuardsMayBe();
        guardsMayChangeInEachCycle();
        resultsOnEveryWay();
        resultsUnderWay();
        jumpsBehindJumps();
        jumpsOfNoConstant();
        waysEndAtHaltAndAtFaults();
        waysComeRound();
        waysGoBackOftenAndOften();
        theLeastCycleAndFault();
        theObjectStaysAsItIs();
        Check.end();
    }

    private static void expect(String what, MoveDesk desk, int cycle, int fault) {
        Check.same(what + ": judge()", desk.judge(), cycle);
        Check.same(what + ": fault(0)", desk.fault(0), fault);
    }

    private static void nothingIsWrong() {
        MoveDesk desk = new MoveDesk(2, 1, 1);
        expect("no code", desk, -1, 0);
        Ports.constant(desk, 3, 0, 1, 0);
        Ports.constant(desk, 3, 1, 1, 8);
        expect("two moves", desk, -1, 0);
    }

    private static void anyGuardsMayBe() {
        MoveDesk desk = new MoveDesk(2, 1, 1);
        desk.move(4, 0, Ports.ifOne(0), Ports.CONSTANT, 1, 3);
        desk.move(4, 1, Ports.ifZero(1), Ports.CONSTANT, 1, 3);
        expect("guards of two kinds", desk, 4, 1);
        desk.move(4, 1, Ports.ifZero(0), Ports.CONSTANT, 1, 3);
        expect("one or the other", desk, -1, 0);
        desk.move(4, 1, Ports.ifOne(0), Ports.CONSTANT, 1, 4);
        expect("both or none", desk, 4, 4);
    }

    private static void guardsMayChangeInEachCycle() {
        MoveDesk desk = new MoveDesk(2, 1, 1);
        desk.move(0, 0, Ports.ifOne(2), Ports.CONSTANT, 1, Ports.ADD);
        desk.move(1, 0, Ports.ifOne(2), Ports.RESULT, 0, 1);
        expect("no trigger sets the guard", desk, 1, 2);
    }

    private static void resultsOnEveryWay() {
        MoveDesk desk = new MoveDesk(2, 2, 2);
        desk.move(0, 0, Ports.ifOne(0), Ports.CONSTANT, 5, Ports.JUMP);
        Ports.constant(desk, 3, 0, 1, Ports.ADD);
        Ports.port(desk, 9, 0, Ports.RESULT, 1);
        expect("one way goes by", desk, 9, 2);
        Ports.constant(desk, 2, 1, 1, Ports.SUBTRACT);
        expect("both ways begin one", desk, -1, 0);
        desk.free(2, 1);
        Ports.constant(desk, 2, 1, 1, Ports.EQUAL);
        expect("a comparison has no result", desk, 9, 2);
    }

    private static void resultsUnderWay() {
        int[] triggers = {Ports.ADD, Ports.MULTIPLY, Ports.LOAD};
        for (int unit = 0; unit < 3; unit++) {
            for (int given = 1; given <= 4; given++) {
                MoveDesk desk = new MoveDesk(2, given, given);
                int latency = unit == 0 ? 1 : unit == 1 ? given : Math.min(3, given);
                Ports.constant(desk, 10, 0, 1, triggers[unit]);
                for (int behind = 1; behind <= 6; behind++) {
                    Ports.port(desk, 10 + behind, 1, Ports.RESULT + unit, 0);
                    expect("unit " + unit + " of " + latency + " read " + behind + " behind", desk,
                            behind < latency ? 10 + behind : -1, behind < latency ? 2 : 0);
                    desk.free(10 + behind, 1);
                }
            }
        }
        MoveDesk desk = new MoveDesk(2, 1, 1);
        Ports.constant(desk, 0, 0, 1, Ports.STORE);
        Ports.port(desk, 9, 0, Ports.RESULT + 2, 0);
        expect("a store has no result", desk, 9, 2);
    }

    private static void jumpsBehindJumps() {
        for (int behind = 1; behind <= 3; behind++) {
            MoveDesk desk = new MoveDesk(2, 1, 1);
            desk.move(10, 0, Ports.ifOne(0), Ports.CONSTANT, 20, Ports.JUMP);
            desk.move(10 + behind, 0, Ports.ifZero(0), Ports.CONSTANT, 30, Ports.JUMP);
            expect("JUMP " + behind + " behind", desk, behind < 3 ? 10 + behind : -1, behind < 3 ? 3 : 0);
        }
    }

    private static void jumpsOfNoConstant() {
        for (int source = 0; source < 12; source++) {
            MoveDesk desk = new MoveDesk(2, 1, 1);
            Ports.constant(desk, 0, 0, 1, Ports.ADD);
            Ports.constant(desk, 0, 1, 1, Ports.MULTIPLY);
            Ports.constant(desk, 1, 0, 1, Ports.LOAD);
            desk.move(5, 0, Ports.ifOne(1), source, 0, Ports.JUMP);
            expect("JUMP of source " + source, desk, source == 11 ? -1 : 5, source == 11 ? 0 : 5);
        }
    }

    private static void waysEndAtHaltAndAtFaults() {
        MoveDesk desk = new MoveDesk(2, 1, 1);
        Ports.port(desk, 9, 0, Ports.RESULT, 1);
        Ports.constant(desk, 5, 0, 0, Ports.HALT);
        expect("HALT ahead", desk, -1, 0);
        desk.move(5, 0, Ports.ifOne(0), Ports.CONSTANT, 0, Ports.HALT);
        expect("HALT perhaps", desk, 9, 2);
        desk.clear();
        Ports.constant(desk, 20, 0, 9, Ports.JUMP);
        Ports.port(desk, 21, 0, Ports.RESULT, 1);
        Ports.constant(desk, 9, 0, 9, 3);
        desk.move(9, 1, Ports.ifOne(0), Ports.RESULT + 1, 9, 8);
        Ports.constant(desk, 0, 0, 20, Ports.JUMP);
        expect("the way ends at 21", desk, 21, 2);
        Ports.constant(desk, 1, 0, 20, Ports.ADD);
        expect("the way goes on", desk, 9, 2);
    }

    private static void waysComeRound() {
        MoveDesk desk = new MoveDesk(2, 1, 1);
        Ports.constant(desk, 63, 0, 40, Ports.JUMP);
        desk.move(0, 0, Ports.ifOne(3), Ports.CONSTANT, 40, Ports.JUMP);
        expect("JUMP of 63 is under way at 0", desk, 0, 3);
        desk.clear();
        Ports.constant(desk, 62, 0, -62, Ports.JUMP);
        Ports.constant(desk, 0, 0, 0, 1);
        Ports.constant(desk, 4, 0, 60, Ports.JUMP);
        Ports.constant(desk, 5, 0, 60, Ports.HALT);
        expect("HALT one behind", desk, -1, 0);
        desk.free(5, 0);
        Ports.constant(desk, 7, 0, 60, 1);
        Ports.constant(desk, 7, 1, 60, 2);
        expect("7 is passed over", desk, -1, 0);
        Ports.constant(desk, 62, 0, 64 + 7, Ports.JUMP);
        expect("7 by modulo", desk, 7, 4);
    }

    private static void waysGoBackOftenAndOften() {
        MoveDesk desk = new MoveDesk(2, 4, 3);
        Ports.constant(desk, 0, 0, 60, Ports.JUMP);
        for (int cycle = 60; cycle > 5; cycle -= 5) {
            Ports.constant(desk, cycle, 1, cycle - 5, Ports.JUMP);
        }
        expect("all JUMPS", desk, -1, 0);
        Ports.port(desk, 5, 0, Ports.RESULT + 1, 0);
        expect("the last one leads to a FAULT", desk, 5, 2);
        Ports.constant(desk, 12, 0, 1, Ports.MULTIPLY);
        expect("a product begun too late", desk, 5, 2);
        Ports.constant(desk, 16, 0, 1, Ports.MULTIPLY);
        expect("a product begun in time", desk, -1, 0);
    }

    private static void theLeastCycleAndFault() {
        MoveDesk desk = new MoveDesk(4, 1, 1);
        Ports.constant(desk, 0, 0, 30, Ports.JUMP);
        desk.move(30, 0, Ports.ifOne(0), Ports.RESULT, 0, 1);
        Ports.constant(desk, 31, 0, 8, Ports.JUMP);
        desk.move(8, 0, Ports.ifOne(0), 0, 0, Ports.JUMP);
        desk.move(8, 1, Ports.ifOne(1), Ports.CONSTANT, 0, 1);
        desk.move(8, 2, Ports.ifOne(2), Ports.CONSTANT, 0, 2);
        expect("8 is less than 30, 4 less than 5", desk, 8, 4);
        desk.move(8, 3, Ports.ifOne(3), Ports.RESULT, 0, 9);
        expect("2 less than 4", desk, 8, 2);
        desk.move(8, 2, Ports.ifOne(2), Ports.CONSTANT, 0, 1);
        expect("1 less than 2", desk, 8, 1);
        desk.free(8, 1);
        desk.free(8, 2);
        desk.free(8, 3);
        expect("5 alone", desk, 8, 5);
    }

    private static void theObjectStaysAsItIs() {
        MoveDesk desk = new MoveDesk(2, 1, 1);
        Ports.constant(desk, 0, 0, 7, Ports.ADD);
        Ports.port(desk, 1, 0, Ports.RESULT, 1);
        desk.run(1);
        Ports.constant(desk, 0, 0, 7, Ports.EQUAL);
        expect("as behind reset()", desk, 1, 2);
        Check.same("PC stays", desk.state(0), 1);
        Check.same("result stays", desk.state(12), 7);
        Check.same("fault(1) is its own", desk.fault(1), 0);
        Check.same("run(1)", desk.run(1), 1);
        desk.clear();
        Check.same("fault(0) is the latest judge's", desk.fault(0), 2);
        expect("no code", desk, -1, 0);
    }
}
