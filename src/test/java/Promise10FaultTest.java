/** Promise 10: fault. */
public final class Promise10FaultTest {
    public static void main(String[] args) {
        anotherWhat();
        noJudgeYet();
        judgeToldNone();
        noRunYet();
        runEndedAtNone();
        theLatestOnes();
        fault1OfTwoMoves();
        fault1OfBusesApart();
        fault1NotMade();
        fault2();
        fault2SinceReset();
        fault3();
        fault3BehindTheLastCycle();
        fault3AndHalt();
        fault4OfRegistersRead();
        fault4OfRegistersWritten();
        fault5IsTheJudgesAlone();
        theLeastOfARun();
        theLeastOfAJudgedCycle();
        theLeastOfAllWays();
        Check.end();
    }

    /** What the cycle 0 of a desk that has been made so is, to the judge and to a run. */
    private static void expectAtZero(String what, MoveDesk desk, int due) {
        Check.same(what + ": judge()", desk.judge(), due == 0 ? -1 : 0);
        Check.same(what + ": fault(0)", desk.fault(0), due);
        Check.same(what + ": run(1)", desk.run(1), due == 0 ? 1 : 0);
        Check.same(what + ": fault(1)", desk.fault(1), due);
    }

    private static void anotherWhat() {
        Check.sentence("NONE for another what.");
        MoveDesk desk = new MoveDesk(2, 1, 1);
        for (int round = 0; round < 2; round++) {
            for (int what : new int[] {-1, 2, 3, Integer.MIN_VALUE, Integer.MAX_VALUE}) {
                Check.same("fault(" + what + ")", desk.fault(what), -1);
            }
            Ports.port(desk, 0, 0, Ports.RESULT, 0);
            desk.judge();
            desk.run(1);
        }
        Check.same("fault(0)", desk.fault(0), 2);
        Check.same("fault(1)", desk.fault(1), 2);
    }

    private static void noJudgeYet() {
        Check.sentence("0 if it told none (what = 0)");
        MoveDesk desk = new MoveDesk(2, 1, 1);
        Ports.port(desk, 0, 0, Ports.RESULT, 0);
        Check.same("fault(0)", desk.fault(0), 0);
        desk.run(1);
        Check.same("fault(0) behind run()", desk.fault(0), 0);
    }

    private static void judgeToldNone() {
        Check.sentence("0 if it told none (what = 0)");
        MoveDesk desk = new MoveDesk(2, 1, 1);
        Check.same("judge()", desk.judge(), -1);
        Check.same("fault(0)", desk.fault(0), 0);
        Ports.port(desk, 0, 0, Ports.RESULT, 0);
        Check.same("judge()", desk.judge(), 0);
        Check.same("fault(0)", desk.fault(0), 2);
        desk.free(0, 0);
        Check.same("judge()", desk.judge(), -1);
        Check.same("fault(0)", desk.fault(0), 0);
    }

    private static void noRunYet() {
        Check.sentence("the FAULT at which the latest run() ended, 0 if at none (1)");
        MoveDesk desk = new MoveDesk(2, 1, 1);
        Ports.port(desk, 0, 0, Ports.RESULT, 0);
        Check.same("fault(1)", desk.fault(1), 0);
        desk.judge();
        Check.same("fault(1) behind judge()", desk.fault(1), 0);
    }

    private static void runEndedAtNone() {
        Check.sentence("the FAULT at which the latest run() ended, 0 if at none (1)");
        MoveDesk desk = new MoveDesk(2, 1, 1);
        Ports.port(desk, 2, 0, Ports.RESULT, 0);
        Check.same("run(2)", desk.run(2), 2);
        Check.same("fault(1) ahead of the FAULT", desk.fault(1), 0);
        Check.same("run(1)", desk.run(1), 0);
        Check.same("fault(1) at it", desk.fault(1), 2);
        Check.same("run(1) again", desk.run(1), 0);
        Check.same("fault(1) at it again", desk.fault(1), 2);
        Check.same("run(0)", desk.run(0), 0);
        Check.same("fault(1) of no cycle", desk.fault(1), 0);
        desk.run(1);
        Ports.constant(desk, 2, 0, 0, Ports.HALT);
        Check.same("run(9)", desk.run(9), 1);
        Check.same("fault(1) at HALT", desk.fault(1), 0);
        Ports.port(desk, 3, 0, Ports.RESULT, 0);
        Check.same("run(9) when HALTED", desk.run(9), 0);
        Check.same("fault(1) when HALTED", desk.fault(1), 0);
    }

    private static void theLatestOnes() {
        Check.sentence("which the latest judge() told; at which the latest run() ended");
        MoveDesk desk = new MoveDesk(2, 1, 1);
        Ports.port(desk, 0, 0, 0, Ports.JUMP);
        Ports.port(desk, 1, 0, Ports.RESULT, 0);
        desk.poke(0, 5);
        desk.judge();
        desk.run(9);
        desk.reset();
        desk.clear();
        desk.compile();
        Check.fails("run(-1)", IllegalArgumentException.class, () -> desk.run(-1));
        Check.fails("run(1001)", IllegalArgumentException.class, () -> desk.run(1001));
        Check.same("fault(0)", desk.fault(0), 5);
        Check.same("fault(1)", desk.fault(1), 2);
        Check.same("fault(0) again", desk.fault(0), 5);
        desk.judge();
        Check.same("fault(1) behind judge()", desk.fault(1), 2);
        Check.same("fault(0) behind judge()", desk.fault(0), 0);
        desk.run(9);
        Check.same("fault(1) behind run()", desk.fault(1), 0);
    }

    private static void fault1OfTwoMoves() {
        Check.sentence("1: two moves that would be made go to one destination, or to triggers of one unit, or are JUMP and HALT");
        for (int one = 0; one < 26; one++) {
            for (int other = 0; other < 26; other++) {
                MoveDesk desk = new MoveDesk(2, 1, 1);
                Ports.constant(desk, 0, 0, 1, one);
                Ports.constant(desk, 0, 1, 1, other);
                int due = group(one) == group(other) ? 1 : one < 8 && other < 8 ? 4 : 0;
                expectAtZero(one + " with " + other, desk, due);
            }
        }
    }

    private static int group(int destination) {
        if (destination < Ports.ADD) {
            return destination;
        }
        switch (destination) {
            case Ports.MULTIPLY:
                return 101;
            case Ports.LOAD:
            case Ports.STORE:
                return 102;
            case Ports.JUMP:
            case Ports.HALT:
                return 103;
            default:
                return 100;
        }
    }

    private static void fault1OfBusesApart() {
        Check.sentence("1: two moves that would be made go to one destination");
        for (int one = 0; one < 4; one++) {
            for (int other = 0; other < one; other++) {
                MoveDesk desk = new MoveDesk(4, 1, 1);
                for (int bus = 0; bus < 4; bus++) {
                    Ports.constant(desk, 0, bus, 1, 8 + bus);
                }
                expectAtZero("four destinations", desk, 0);
                desk.reset();
                Ports.constant(desk, 0, one, 1, Ports.STORE);
                Ports.constant(desk, 0, other, 1, Ports.LOAD);
                expectAtZero("buses " + other + " and " + one, desk, 1);
            }
        }
    }

    private static void fault1NotMade() {
        Check.sentence("1: two moves that would be made");
        MoveDesk desk = new MoveDesk(2, 1, 1);
        Ports.constant(desk, 0, 0, 1, 5);
        desk.move(0, 1, Ports.ifOne(0), Ports.CONSTANT, 2, 5);
        Check.same("judge()", desk.judge(), 0);
        Check.same("fault(0)", desk.fault(0), 1);
        Check.same("run(1)", desk.run(1), 1);
        Check.same("fault(1)", desk.fault(1), 0);
        Check.same("peek(5)", desk.peek(5), 1);
        desk.reset();
        desk.move(0, 1, Ports.ifZero(0), Ports.CONSTANT, 2, 5);
        Check.same("run(1)", desk.run(1), 0);
        Check.same("fault(1)", desk.fault(1), 1);
    }

    private static void fault2() {
        Check.sentence("2: one would read the RESULT of a unit that has had none");
        for (int unit = 0; unit < 3; unit++) {
            for (int given = 1; given <= 4; given++) {
                int latency = unit == 0 ? 1 : unit == 1 ? given : Math.min(3, given);
                for (int behind = 0; behind <= 5; behind++) {
                    MoveDesk desk = new MoveDesk(2, given, given);
                    Ports.constant(desk, 0, 0, 3, Ports.BEGIN[unit]);
                    Ports.port(desk, behind, 1, Ports.RESULT + unit, 0);
                    Check.same("run(9) to a read " + behind + " behind", desk.run(9), behind < latency ? behind : 9);
                    Check.same("fault(1)", desk.fault(1), behind < latency ? 2 : 0);
                }
            }
        }
        int[] noResult = {Ports.STORE, Ports.EQUAL, Ports.EQUAL + 3, Ports.LESS, Ports.LESS + 3};
        for (int trigger : noResult) {
            MoveDesk desk = new MoveDesk(2, 1, 1);
            Ports.constant(desk, 0, 0, 0, trigger);
            Ports.port(desk, 5, 0, trigger == Ports.STORE ? 10 : 8, 0);
            Check.same("run(9) with trigger " + trigger, desk.run(9), 5);
            Check.same("fault(1)", desk.fault(1), 2);
        }
    }

    private static void fault2SinceReset() {
        Check.sentence("2: .. that has had none since reset()");
        for (int unit = 0; unit < 3; unit++) {
            MoveDesk desk = new MoveDesk(2, 3, 3);
            Ports.constant(desk, 0, 0, 3, Ports.BEGIN[unit]);
            Ports.port(desk, 4, 0, Ports.RESULT + unit, 0);
            Check.same("run(6)", desk.run(6), 6);
            desk.reset();
            desk.free(0, 0);
            Check.same("run(6) behind reset()", desk.run(6), 4);
            Check.same("fault(1)", desk.fault(1), 2);
            Ports.constant(desk, 0, 0, 3, Ports.BEGIN[unit]);
            desk.reset();
            desk.run(1);
            desk.reset();
            desk.free(0, 0);
            Check.same("run(6), begun ahead of reset()", desk.run(6), 4);
            Check.same("fault(1)", desk.fault(1), 2);
        }
    }

    private static void fault3() {
        Check.sentence("3: JUMP, with another one made one or two cycles ahead");
        for (int behind = 1; behind <= 4; behind++) {
            MoveDesk desk = new MoveDesk(2, 1, 1);
            Ports.constant(desk, 0, 0, behind, Ports.JUMP);
            Ports.constant(desk, behind, 0, 20, Ports.JUMP);
            Check.same("run(9)", desk.run(9), behind < 3 ? behind : 9);
            Check.same("fault(1)", desk.fault(1), behind < 3 ? 3 : 0);
            Check.same("state(0)", desk.state(0), behind < 3 ? behind : 23);
            Check.same("state(15)", desk.state(15), behind < 3 ? 3 - behind : 0);
            Check.same("judge()", desk.judge(), behind < 3 ? behind : -1);
            Check.same("fault(0)", desk.fault(0), behind < 3 ? 3 : 0);
        }
        MoveDesk desk = new MoveDesk(2, 1, 1);
        Ports.constant(desk, 0, 0, 9, Ports.JUMP);
        desk.run(1);
        desk.reset();
        Ports.constant(desk, 0, 0, 30, Ports.JUMP);
        Check.same("run(3) behind reset()", desk.run(3), 3);
        Check.same("state(0)", desk.state(0), 30);
    }

    private static void fault3BehindTheLastCycle() {
        Check.sentence("3: JUMP, with another one made one or two cycles ahead (PC .. 0 behind 63)");
        for (int first = 61; first <= 63; first++) {
            for (int second = 0; second <= 2; second++) {
                MoveDesk desk = new MoveDesk(2, 1, 1);
                desk.run(60);
                Ports.constant(desk, first, 0, 30, Ports.JUMP);
                Ports.constant(desk, second, 0, 40, Ports.JUMP);
                boolean wrong = 64 + second - first <= 2;
                Check.same("JUMPS at " + first + " and " + second + ": run(9)", desk.run(9),
                        wrong ? 4 + second : 9);
                Check.same("JUMPS at " + first + " and " + second + ": fault(1)", desk.fault(1), wrong ? 3 : 0);
            }
        }
    }

    private static void fault3AndHalt() {
        Check.sentence("3: JUMP (HALT is none)");
        for (int behind = 1; behind <= 2; behind++) {
            MoveDesk desk = new MoveDesk(2, 1, 1);
            Ports.constant(desk, 0, 0, 20, Ports.JUMP);
            Ports.constant(desk, behind, 0, 0, Ports.HALT);
            Check.same("run(9)", desk.run(9), behind + 1);
            Check.same("fault(1)", desk.fault(1), 0);
            Check.same("judge()", desk.judge(), -1);
        }
        MoveDesk desk = new MoveDesk(2, 1, 1);
        Ports.constant(desk, 0, 0, 20, Ports.JUMP);
        desk.move(1, 0, Ports.ifOne(0), Ports.CONSTANT, 30, Ports.JUMP);
        Check.same("run(3) with one that is not made", desk.run(3), 3);
        Check.same("state(0)", desk.state(0), 20);
    }

    private static void fault4OfRegistersRead() {
        Check.sentence("4: more than two different registers would be read");
        int[][] given = {{1, 1, 1, 1, 0}, {1, 2, 1, 2, 0}, {0, 7, 7, 7, 0}, {11, 11, 6, 7, 0}, {1, 2, 3, 3, 4},
            {1, 2, 3, 4, 4}, {0, 11, 6, 7, 4}, {7, 7, 0, 6, 4}, {11, 11, 11, 11, 0}};
        for (int[] sources : given) {
            MoveDesk desk = new MoveDesk(4, 1, 1);
            for (int bus = 0; bus < 4; bus++) {
                Ports.port(desk, 0, bus, sources[bus], 7 + bus);
            }
            expectAtZero("registers " + sources[0] + ", " + sources[1] + ", " + sources[2] + ", " + sources[3], desk,
                    sources[4]);
        }
        MoveDesk desk = new MoveDesk(4, 1, 1);
        for (int bus = 0; bus < 4; bus++) {
            desk.move(0, bus, bus < 2 ? 0 : Ports.ifOne(1), bus, 0, 8 + bus);
        }
        Check.same("run(1) with two that are not made", desk.run(1), 1);
        desk.reset();
        desk.move(0, 3, Ports.ifZero(1), 3, 0, 11);
        Check.same("run(1) with one that is not made", desk.run(1), 0);
        Check.same("fault(1)", desk.fault(1), 4);
    }

    private static void fault4OfRegistersWritten() {
        Check.sentence("4: .. or more than one written");
        MoveDesk desk = new MoveDesk(4, 1, 1);
        Ports.constant(desk, 0, 0, 1, 0);
        expectAtZero("one", desk, 0);
        desk.reset();
        Ports.constant(desk, 0, 3, 1, 7);
        expectAtZero("two", desk, 4);
        Ports.constant(desk, 0, 2, 1, 3);
        expectAtZero("three", desk, 4);
        desk.move(0, 2, Ports.ifOne(0), 11, 1, 3);
        desk.move(0, 3, Ports.ifOne(0), 11, 1, 7);
        Check.same("run(1) with two that are not made", desk.run(1), 1);
        MoveDesk both = new MoveDesk(4, 1, 1);
        Ports.port(both, 0, 0, 1, 3);
        Ports.port(both, 0, 1, 2, 8);
        Ports.port(both, 0, 2, 1, 9);
        Ports.port(both, 0, 3, 2, 10);
        expectAtZero("two read, another one written", both, 0);
    }

    private static void fault5IsTheJudgesAlone() {
        Check.sentence("or a JUMP of a source that is no constant is made (5)");
        MoveDesk desk = new MoveDesk(2, 1, 1);
        desk.poke(3, 9);
        Ports.port(desk, 0, 0, 3, Ports.JUMP);
        Check.same("judge()", desk.judge(), 0);
        Check.same("fault(0)", desk.fault(0), 5);
        Check.same("run(3)", desk.run(3), 3);
        Check.same("fault(1)", desk.fault(1), 0);
        Check.same("state(0)", desk.state(0), 9);
    }

    private static void theLeastOfARun() {
        Check.sentence("FAULTS, found before a cycle is made, which is not made then (the least one)");
        MoveDesk desk = new MoveDesk(4, 1, 1);
        Ports.constant(desk, 0, 0, 9, Ports.JUMP);
        Ports.port(desk, 1, 0, Ports.RESULT, Ports.JUMP);
        Ports.port(desk, 1, 1, 1, 1);
        Ports.port(desk, 1, 2, 1, 1);
        expectRunFault(desk, 1);
        Ports.port(desk, 1, 2, 1, 2);
        expectRunFault(desk, 2);
        Ports.port(desk, 1, 0, 3, Ports.JUMP);
        expectRunFault(desk, 3);
        desk.free(0, 0);
        expectRunFault(desk, 4);
    }

    private static void expectRunFault(MoveDesk desk, int due) {
        desk.reset();
        Check.same("run(5)", desk.run(5), 1);
        Check.same("fault(1)", desk.fault(1), due);
        Check.same("judge()", desk.judge(), 1);
        Check.same("fault(0)", desk.fault(0), due);
    }

    private static void theLeastOfAJudgedCycle() {
        Check.sentence("The least FAULT that the cycle which the latest judge() told may have");
        MoveDesk desk = new MoveDesk(4, 1, 1);
        desk.move(8, 0, Ports.ifOne(0), 0, 0, Ports.JUMP);
        expectAtEight(desk, 5);
        desk.move(8, 1, Ports.ifOne(1), Ports.CONSTANT, 0, 1);
        desk.move(8, 2, Ports.ifOne(2), Ports.CONSTANT, 0, 2);
        expectAtEight(desk, 4);
        desk.move(6, 0, Ports.ifOne(0), Ports.CONSTANT, 0, Ports.JUMP);
        expectAtEight(desk, 3);
        desk.move(8, 3, Ports.ifOne(3), Ports.RESULT, 0, 9);
        expectAtEight(desk, 2);
        desk.move(8, 2, Ports.ifOne(2), Ports.CONSTANT, 0, 1);
        expectAtEight(desk, 1);
        // The less one on lower buses, then on higher ones.
        for (int first = 0; first <= 2; first += 2) {
            MoveDesk other = new MoveDesk(4, 1, 1);
            other.move(8, first, Ports.ifOne(0), Ports.CONSTANT, 0, 5);
            other.move(8, first + 1, Ports.ifOne(0), Ports.CONSTANT, 0, 5);
            other.move(8, 2 - first, Ports.ifZero(0), Ports.CONSTANT, 0, 6);
            other.move(8, 3 - first, Ports.ifZero(0), Ports.CONSTANT, 0, 7);
            expectAtEight(other, 1);
            other.free(8, first);
            expectAtEight(other, 4);
        }
    }

    private static void expectAtEight(MoveDesk desk, int due) {
        Check.same("judge()", desk.judge(), 8);
        Check.same("fault(0)", desk.fault(0), due);
    }

    private static void theLeastOfAllWays() {
        Check.sentence("The least FAULT that the cycle which the latest judge() told may have");
        MoveDesk desk = new MoveDesk(2, 1, 1);
        // 30 has 4 by the way that has a sum, 2 by the one that has none.
        desk.move(0, 0, Ports.ifOne(0), Ports.CONSTANT, 40, Ports.JUMP);
        desk.move(0, 1, Ports.ifZero(0), Ports.CONSTANT, 0, Ports.ADD);
        Ports.constant(desk, 40, 0, 30, Ports.JUMP);
        Ports.port(desk, 30, 0, Ports.RESULT, 1);
        Ports.constant(desk, 30, 1, 0, 2);
        Check.same("judge()", desk.judge(), 30);
        Check.same("fault(0)", desk.fault(0), 2);
        Ports.constant(desk, 41, 0, 0, Ports.ADD);
        Check.same("judge()", desk.judge(), 30);
        Check.same("fault(0)", desk.fault(0), 4);
        // A less FAULT in a greater cycle is not told.
        Ports.constant(desk, 41, 1, 0, Ports.SUBTRACT);
        Check.same("judge()", desk.judge(), 30);
        Check.same("fault(0)", desk.fault(0), 4);
        desk.clear();
        desk.move(0, 0, Ports.ifOne(0), Ports.CONSTANT, 40, Ports.JUMP);
        Ports.constant(desk, 40, 0, 30, Ports.JUMP);
        Ports.constant(desk, 41, 0, 0, Ports.ADD);
        Ports.port(desk, 30, 0, Ports.RESULT, 1);
        Ports.constant(desk, 30, 1, 0, 2);
        Check.same("judge() with the sum on the other way", desk.judge(), 30);
        Check.same("fault(0)", desk.fault(0), 2);
    }
}
