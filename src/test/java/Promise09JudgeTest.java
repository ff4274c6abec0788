/** Promise 9: judge. */
public final class Promise09JudgeTest {
    public static void main(String[] args) {
        noCode();
        fullCode();
        firstAndLastCycle();
        theLeastCycle();
        fromCycleZeroAsBehindReset();
        anyGuardsMayBe();
        guardsMayAllBeOneOrZero();
        guardsMayChangeInEachCycle();
        resultsOnEveryWay();
        resultsUnderWay();
        resultsOfAllUnits();
        jumpsOnEachBus();
        jumpsBehindJumps();
        jumpsOfNoConstant();
        jumpsNotMade();
        waysEndAtHalt();
        waysEndAtFaults();
        whereNoWayLeads();
        behindTheLastCycle();
        jumpsModulo();
        waysThatHaveNoEnd();
        waysGoBackOftenAndOften();
        theObjectStaysAsItIs();
        Check.end();
    }

    private static void expect(String what, MoveDesk desk, int cycle, int fault) {
        Check.same(what + ": judge()", desk.judge(), cycle);
        Check.same(what + ": fault(0)", desk.fault(0), fault);
    }

    private static void noCode() {
        Check.sentence("The least cycle that may go WRONG; NONE if none may.");
        for (int buses = 2; buses <= 4; buses++) {
            expect("no code", new MoveDesk(buses, 1, 1), -1, 0);
        }
        MoveDesk desk = new MoveDesk(2, 1, 1);
        Ports.constant(desk, 0, 0, 1, 0);
        Ports.constant(desk, 0, 1, 1, 1);
        expect("two registers written", desk, 0, 4);
        desk.clear();
        expect("code no more", desk, -1, 0);
    }

    private static void fullCode() {
        Check.sentence("The least cycle that may go WRONG; NONE if none may.");
        for (int buses = 2; buses <= 4; buses++) {
            MoveDesk desk = new MoveDesk(buses, 4, 3);
            for (int cycle = 0; cycle < 64; cycle++) {
                for (int bus = 0; bus < buses; bus++) {
                    Ports.constant(desk, cycle, bus, 1, 7 + bus);
                }
            }
            expect("full code", desk, -1, 0);
            for (int bus = 0; bus < buses; bus++) {
                desk.move(63, bus, 0, 11, 1, 10);
            }
            expect("full code, the last cycle wrong", desk, 63, 1);
        }
    }

    private static void firstAndLastCycle() {
        Check.sentence("The least cycle that may go WRONG");
        for (int cycle = 0; cycle < 64; cycle++) {
            MoveDesk desk = new MoveDesk(2, 1, 1);
            desk.move(cycle, 0, Ports.ifOne(3), Ports.RESULT, 0, 1);
            expect("a read at " + cycle, desk, cycle, 2);
        }
    }

    private static void theLeastCycle() {
        Check.sentence("The least cycle that may go WRONG");
        MoveDesk desk = new MoveDesk(4, 1, 1);
        desk.move(63, 0, Ports.ifOne(0), Ports.RESULT, 0, 1);
        expect("63", desk, 63, 2);
        desk.move(40, 0, Ports.ifOne(0), Ports.RESULT, 0, 1);
        expect("40 and 63", desk, 40, 2);
        desk.move(0, 0, Ports.ifOne(0), Ports.RESULT, 0, 1);
        expect("0, 40 and 63", desk, 0, 2);
        desk.clear();
        // 30 is found ahead of 8, as the way leads there first.
        Ports.constant(desk, 0, 0, 30, Ports.JUMP);
        desk.move(30, 0, Ports.ifOne(0), Ports.RESULT, 0, 1);
        Ports.constant(desk, 31, 0, 8, Ports.JUMP);
        desk.move(8, 0, Ports.ifOne(0), Ports.RESULT, 0, 1);
        expect("8 and 30", desk, 8, 2);
    }

    private static void fromCycleZeroAsBehindReset() {
        Check.sentence("if there is a way there, from cycle 0 as behind reset()");
        MoveDesk desk = new MoveDesk(2, 1, 1);
        Ports.constant(desk, 0, 0, 7, Ports.ADD);
        Ports.constant(desk, 1, 0, 0, Ports.HALT);
        desk.run(2);
        desk.clear();
        Ports.port(desk, 1, 0, Ports.RESULT, 1);
        Check.same("state(9)", desk.state(9), 1);
        Check.same("state(1)", desk.state(1), 1);
        expect("HALTED, with a result, PC at 2", desk, 1, 2);
        desk.reset();
        expect("behind reset()", desk, 1, 2);
        desk.clear();
        Ports.constant(desk, 0, 0, 9, Ports.JUMP);
        desk.run(1);
        desk.move(0, 0, 0, 11, 9, 1);
        Ports.constant(desk, 1, 0, 9, Ports.JUMP);
        expect("a JUMP is under way", desk, -1, 0);
    }

    private static void anyGuardsMayBe() {
        Check.sentence("guards are in each cycle whatever they may be");
        MoveDesk desk = new MoveDesk(4, 1, 1);
        for (int guard = 0; guard < 4; guard++) {
            int next = (guard + 1) % 4;
            desk.move(4, 0, Ports.ifOne(guard), Ports.CONSTANT, 1, 3);
            desk.move(4, 1, Ports.ifZero(next), Ports.CONSTANT, 1, 3);
            expect("guards of two kinds", desk, 4, 1);
            desk.move(4, 1, Ports.ifZero(guard), Ports.CONSTANT, 1, 3);
            expect("one or the other", desk, -1, 0);
            desk.move(4, 1, Ports.ifOne(guard), Ports.CONSTANT, 1, 4);
            expect("both or none", desk, 4, 4);
        }
        desk.clear();
        for (int bus = 0; bus < 4; bus++) {
            desk.move(4, bus, Ports.ifOne(bus), bus, 1, bus == 3 ? 3 : 8 + bus);
        }
        expect("three of four guards", desk, 4, 4);
        desk.move(4, 3, Ports.ifZero(2), 3, 1, 3);
        desk.move(4, 1, Ports.ifZero(0), 1, 1, 9);
        expect("never three at once", desk, -1, 0);
    }

    private static void guardsMayAllBeOneOrZero() {
        Check.sentence("guards are in each cycle whatever they may be");
        for (int bit = 0; bit < 2; bit++) {
            MoveDesk desk = new MoveDesk(4, 4, 3);
            // Only if all four are so, a way comes behind 10 and on to 5.
            for (int unit = 0; unit < 3; unit++) {
                desk.move(0, unit, bit == 1 ? Ports.ifOne(unit) : Ports.ifZero(unit), 11, 0, Ports.BEGIN[unit]);
                Ports.port(desk, 10, unit, Ports.RESULT + unit, Ports.OPERAND + unit);
            }
            desk.move(0, 3, bit == 1 ? Ports.ifZero(3) : Ports.ifOne(3), 11, 0, Ports.HALT);
            Ports.constant(desk, 1, 0, 10, Ports.JUMP);
            Ports.constant(desk, 10, 3, 5, Ports.JUMP);
            expect("10 lacks results perhaps", desk, 10, 2);
            Ports.constant(desk, 5, 0, 0, 1);
            Ports.constant(desk, 5, 1, 0, 2);
            expect("5 comes perhaps", desk, 5, 4);
        }
    }

    private static void guardsMayChangeInEachCycle() {
        Check.sentence("guards are in each cycle whatever they may be");
        MoveDesk desk = new MoveDesk(2, 1, 1);
        desk.move(0, 0, Ports.ifOne(2), Ports.CONSTANT, 1, Ports.ADD);
        desk.move(1, 0, Ports.ifOne(2), Ports.RESULT, 0, 1);
        expect("no trigger sets the guard", desk, 1, 2);
    }

    private static void resultsOnEveryWay() {
        Check.sentence("if there is a way there .. and it has a FAULT");
        MoveDesk desk = new MoveDesk(2, 2, 2);
        desk.move(0, 0, Ports.ifOne(0), Ports.CONSTANT, 5, Ports.JUMP);
        Ports.constant(desk, 3, 0, 1, Ports.ADD);
        Ports.port(desk, 9, 0, Ports.RESULT, 1);
        expect("one way goes by", desk, 9, 2);
        Ports.constant(desk, 2, 1, 1, Ports.SUBTRACT);
        expect("both ways begin one", desk, -1, 0);
        desk.free(2, 1);
        Ports.constant(desk, 2, 1, 1, Ports.EQUAL);
        expect("a comparison has no result", desk, 9, 2);
        Ports.constant(desk, 2, 1, 1, Ports.LESS + 3);
        expect("no comparison has one", desk, 9, 2);
    }

    private static void resultsUnderWay() {
        Check.sentence("2: one would read the RESULT of a unit that has had none");
        for (int unit = 0; unit < 3; unit++) {
            for (int given = 1; given <= 4; given++) {
                MoveDesk desk = new MoveDesk(2, given, given);
                int latency = unit == 0 ? 1 : unit == 1 ? given : Math.min(3, given);
                Ports.constant(desk, 10, 0, 1, Ports.BEGIN[unit]);
                for (int behind = 0; behind <= 6; behind++) {
                    Ports.port(desk, 10 + behind, 1, Ports.RESULT + unit, 0);
                    expect("unit " + unit + " of " + latency + " read " + behind + " behind", desk,
                            behind < latency ? 10 + behind : -1, behind < latency ? 2 : 0);
                    desk.free(10 + behind, 1);
                }
            }
        }
        MoveDesk desk = new MoveDesk(2, 1, 1);
        Ports.constant(desk, 0, 0, 1, Ports.STORE);
        Ports.port(desk, 9, 0, Ports.RESULT + 2, 0);
        expect("a store has no result", desk, 9, 2);
    }

    private static void resultsOfAllUnits() {
        Check.sentence("2: one would read the RESULT of a unit that has had none");
        for (int multiply = 1; multiply <= 4; multiply++) {
            for (int load = 1; load <= 3; load++) {
                MoveDesk desk = new MoveDesk(4, multiply, load);
                for (int unit = 0; unit < 3; unit++) {
                    Ports.constant(desk, 2, unit, 0, Ports.BEGIN[unit]);
                }
                for (int cycle = 3; cycle <= 6; cycle++) {
                    for (int unit = 0; unit < 3; unit++) {
                        Ports.port(desk, cycle, unit, Ports.RESULT + unit, Ports.OPERAND + unit);
                    }
                    boolean wrong = cycle < 2 + Math.max(multiply, load);
                    expect("latencies " + multiply + ", " + load + " at " + cycle, desk, wrong ? cycle : -1,
                            wrong ? 2 : 0);
                    for (int unit = 0; unit < 3; unit++) {
                        desk.free(cycle, unit);
                    }
                }
            }
        }
    }

    private static void jumpsOnEachBus() {
        Check.sentence("JUMP: the two cycles behind this one are made, then PC is x modulo 64");
        for (int buses = 2; buses <= 4; buses++) {
            for (int bus = 0; bus < buses; bus++) {
                MoveDesk desk = new MoveDesk(buses, 1, 1);
                Ports.constant(desk, 5, bus, 20 + bus, Ports.JUMP);
                for (int other = 0; other < buses; other++) {
                    if (other != bus) {
                        desk.move(5, other, 0, 11, 40 + other, 8 + other);
                    }
                }
                Ports.constant(desk, 20 + bus, 0, 0, Ports.HALT);
                Ports.port(desk, 8, 0, Ports.RESULT, 1);
                expect("JUMP on bus " + bus, desk, -1, 0);
                int[] ways = {6, 7, 20 + bus};
                for (int cycle : ways) {
                    Ports.port(desk, cycle, 1, Ports.RESULT + 1, 1);
                    expect("JUMP on bus " + bus + ", a read at " + cycle, desk, cycle, 2);
                    desk.free(cycle, 1);
                }
                desk.move(7, 1, Ports.ifOne(0), 11, 0, Ports.JUMP);
                expect("JUMP on bus " + bus + ", and at 7", desk, 7, 3);
            }
        }
        MoveDesk choice = new MoveDesk(4, 1, 1);
        for (int bus = 0; bus < 4; bus++) {
            choice.move(0, bus, bus % 2 == 0 ? Ports.ifOne(0) : Ports.ifZero(0), 11, 50 - 10 * bus,
                    bus < 2 ? Ports.JUMP : Ports.ADD);
        }
        Ports.constant(choice, 50, 0, 0, Ports.HALT);
        expect("one of two JUMPS", choice, -1, 0);
        Ports.port(choice, 40, 0, Ports.RESULT + 1, 1);
        expect("the one goes wrong", choice, 40, 2);
        choice.free(40, 0);
        Ports.port(choice, 50, 1, Ports.RESULT + 1, 1);
        expect("the other one goes wrong", choice, 50, 2);
    }

    private static void jumpsBehindJumps() {
        Check.sentence("3: JUMP, with another one made one or two cycles ahead");
        for (int behind = 1; behind <= 4; behind++) {
            MoveDesk desk = new MoveDesk(2, 1, 1);
            desk.move(10, 0, Ports.ifOne(0), Ports.CONSTANT, 20, Ports.JUMP);
            desk.move(10 + behind, 0, Ports.ifZero(0), Ports.CONSTANT, 30, Ports.JUMP);
            expect("JUMP " + behind + " behind", desk, behind < 3 ? 10 + behind : -1, behind < 3 ? 3 : 0);
            desk.move(10, 0, Ports.ALWAYS, Ports.CONSTANT, 10 + behind, Ports.JUMP);
            expect("JUMP to the one " + behind + " behind", desk, behind < 3 ? 10 + behind : -1, behind < 3 ? 3 : 0);
        }
    }

    private static void jumpsOfNoConstant() {
        Check.sentence("or a JUMP of a source that is no constant is made (5)");
        for (int source = 0; source < 12; source++) {
            MoveDesk desk = new MoveDesk(2, 1, 1);
            Ports.constant(desk, 0, 0, 1, Ports.ADD);
            Ports.constant(desk, 0, 1, 1, Ports.MULTIPLY);
            Ports.constant(desk, 1, 0, 1, Ports.LOAD);
            desk.move(5, 0, Ports.ifOne(1), source, 0, Ports.JUMP);
            expect("JUMP of source " + source, desk, source == 11 ? -1 : 5, source == 11 ? 0 : 5);
        }
        MoveDesk desk = new MoveDesk(2, 1, 1);
        Ports.port(desk, 0, 0, 0, Ports.JUMP);
        expect("in the first cycle", desk, 0, 5);
        desk.clear();
        Ports.port(desk, 63, 1, 7, Ports.JUMP);
        expect("in the last cycle", desk, 63, 5);
    }

    private static void jumpsNotMade() {
        Check.sentence("or a JUMP of a source that is no constant is made (5)");
        MoveDesk desk = new MoveDesk(2, 1, 1);
        Ports.port(desk, 5, 0, 1, Ports.JUMP);
        Ports.constant(desk, 4, 0, 0, Ports.HALT);
        expect("HALT ahead", desk, -1, 0);
        Ports.constant(desk, 4, 0, 20, Ports.JUMP);
        expect("JUMP behind JUMP is 3", desk, 5, 3);
        desk.free(4, 0);
        Ports.constant(desk, 1, 0, 20, Ports.JUMP);
        expect("every way goes by, time and again", desk, -1, 0);
        desk.move(1, 0, Ports.ifOne(0), Ports.CONSTANT, 20, Ports.JUMP);
        expect("a way leads there", desk, 5, 5);
    }

    private static void waysEndAtHalt() {
        Check.sentence("Ways end at HALT.");
        MoveDesk desk = new MoveDesk(2, 1, 1);
        Ports.port(desk, 9, 0, Ports.RESULT, 1);
        Ports.constant(desk, 8, 0, 0, Ports.HALT);
        expect("HALT ahead", desk, -1, 0);
        desk.move(8, 0, Ports.ifOne(0), Ports.CONSTANT, 0, Ports.HALT);
        expect("HALT perhaps", desk, 9, 2);
        desk.move(8, 1, Ports.ifZero(0), Ports.CONSTANT, 0, Ports.HALT);
        expect("HALT by one of two", desk, -1, 0);
        desk.clear();
        Ports.port(desk, 9, 0, Ports.RESULT, 1);
        Ports.constant(desk, 9, 1, 0, Ports.HALT);
        expect("HALT in the wrong cycle itself", desk, 9, 2);
        desk.clear();
        for (int behind = 0; behind <= 3; behind++) {
            Ports.constant(desk, 0, 0, 9, Ports.JUMP);
            desk.move(9, 0, 0, Ports.RESULT, 1, 1);
            Ports.constant(desk, behind, 1, 0, Ports.HALT);
            expect("HALT " + behind + " behind JUMP", desk, behind == 0 ? 0 : behind == 3 ? 9 : -1,
                    behind == 0 ? 1 : behind == 3 ? 2 : 0);
            desk.free(behind, 1);
        }
    }

    private static void waysEndAtFaults() {
        Check.sentence("on which .. no cycle had a FAULT");
        // Behind 21 the code leads to 9.
        for (int fault = 1; fault <= 4; fault++) {
            MoveDesk desk = new MoveDesk(2, 4, 3);
            Ports.constant(desk, 0, 0, 20, Ports.JUMP);
            Ports.constant(desk, 26, 0, 9, Ports.JUMP);
            desk.move(9, 0, Ports.ifOne(0), Ports.CONSTANT, 0, 1);
            desk.move(9, 1, Ports.ifOne(0), Ports.CONSTANT, 0, 2);
            expect("no FAULT at 21", desk, 9, 4);
            moveWithFault(desk, fault, Ports.ALWAYS);
            expect("FAULT " + fault + " at 21", desk, 21, fault);
            moveWithFault(desk, fault, Ports.ifOne(0));
            expect("FAULT " + fault + " at 21 perhaps", desk, 9, 4);
        }
        MoveDesk desk = new MoveDesk(2, 1, 1);
        Ports.constant(desk, 20, 0, 9, Ports.JUMP);
        Ports.port(desk, 21, 0, Ports.RESULT, 1);
        desk.move(9, 1, Ports.ifOne(0), Ports.RESULT + 1, 9, 8);
        Ports.constant(desk, 0, 0, 20, Ports.JUMP);
        expect("the way ends at 21", desk, 21, 2);
        desk.move(21, 0, Ports.ifOne(0), Ports.RESULT, 0, 1);
        expect("a way goes on", desk, 9, 2);
        desk.move(21, 0, Ports.ALWAYS, Ports.RESULT, 0, 1);
        Ports.constant(desk, 1, 0, 20, Ports.ADD);
        expect("no FAULT at 21 any more", desk, 9, 2);
    }

    /** Cycle 21 has that FAULT if the guard is so. */
    private static void moveWithFault(MoveDesk desk, int fault, int guard) {
        if (fault == 1) {
            Ports.constant(desk, 21, 0, 0, 5);
            desk.move(21, 1, guard, Ports.CONSTANT, 0, 5);
        } else if (fault == 2) {
            desk.move(21, 1, guard, Ports.RESULT, 0, 5);
        } else if (fault == 3) {
            Ports.constant(desk, 20, 0, 26, Ports.JUMP);
            desk.move(21, 1, guard, Ports.CONSTANT, 26, Ports.JUMP);
        } else {
            Ports.constant(desk, 21, 0, 0, 5);
            desk.move(21, 1, guard, Ports.CONSTANT, 0, 6);
        }
    }

    private static void whereNoWayLeads() {
        Check.sentence("if there is a way there");
        MoveDesk desk = new MoveDesk(2, 1, 1);
        Ports.constant(desk, 0, 0, 4, Ports.JUMP);
        desk.move(3, 0, 0, Ports.RESULT, 0, 1);
        expect("3 is passed over, time and again", desk, -1, 0);
        desk.move(0, 0, Ports.ifOne(0), Ports.CONSTANT, 4, Ports.JUMP);
        expect("3 is passed over perhaps", desk, 3, 2);
        desk.move(0, 0, Ports.ALWAYS, Ports.CONSTANT, 3, Ports.JUMP);
        expect("the JUMP leads to 3", desk, 3, 2);
        desk.clear();
        Ports.constant(desk, 0, 0, 4, Ports.JUMP);
        desk.move(2, 0, 0, Ports.RESULT, 0, 1);
        expect("2 is made before the JUMP is done", desk, 2, 2);
    }

    private static void behindTheLastCycle() {
        Check.sentence("PC becomes one more else, 0 behind 63.");
        MoveDesk desk = new MoveDesk(2, 1, 1);
        Ports.constant(desk, 63, 0, 40, Ports.JUMP);
        expect("JUMP at 63", desk, -1, 0);
        for (int cycle = 0; cycle <= 2; cycle++) {
            desk.move(cycle, 1, Ports.ifOne(3), Ports.CONSTANT, 10, Ports.JUMP);
            expect("JUMP at 63 and at " + cycle, desk, cycle < 2 ? cycle : -1, cycle < 2 ? 3 : 0);
            desk.free(cycle, 1);
        }
        desk.clear();
        Ports.constant(desk, 62, 0, 40, Ports.JUMP);
        for (int cycle = 0; cycle <= 1; cycle++) {
            desk.move(cycle, 1, Ports.ifOne(3), Ports.CONSTANT, 10, Ports.JUMP);
            expect("JUMP at 62 and at " + cycle, desk, cycle < 1 ? cycle : -1, cycle < 1 ? 3 : 0);
            desk.free(cycle, 1);
        }
        for (int cycle = 61; cycle <= 63; cycle++) {
            MoveDesk low = new MoveDesk(2, 1, 1);
            Ports.constant(low, 2, 0, 60, Ports.JUMP);
            Ports.constant(low, cycle, 1, 40, Ports.JUMP);
            expect("JUMP at " + cycle, low, -1, 0);
            low.move(40, 1, Ports.ifOne(2), Ports.RESULT, 0, 1);
            expect("JUMP at " + cycle + " to a read", low, 40, 2);
        }
    }

    private static void jumpsModulo() {
        Check.sentence("then PC is x modulo 64");
        int[][] given = {{7, 7}, {64 + 7, 7}, {7 - 64, 7}, {64, 0}, {-1, 63}, {63, 63}, {127, 63}, {-64, 0},
            {Integer.MIN_VALUE + 9, 9}, {Integer.MAX_VALUE, 63}, {Integer.MAX_VALUE - 60, 3}};
        for (int[] pair : given) {
            MoveDesk desk = new MoveDesk(2, 1, 1);
            Ports.constant(desk, 0, 0, pair[0], Ports.JUMP);
            Ports.constant(desk, 3, 0, 0, Ports.HALT);
            Ports.constant(desk, 7, 0, 0, Ports.HALT);
            Ports.constant(desk, 9, 0, 0, Ports.HALT);
            Ports.constant(desk, 63, 0, 0, Ports.HALT);
            expect("JUMP of " + pair[0], desk, -1, 0);
            if (pair[1] != 0) {
                Ports.port(desk, pair[1], 1, Ports.RESULT, 1);
                expect("JUMP of " + pair[0] + " to a read", desk, pair[1], 2);
            }
        }
    }

    private static void waysThatHaveNoEnd() {
        Check.sentence("a judge looks at all ways that code can go");
        MoveDesk desk = new MoveDesk(2, 4, 3);
        Ports.constant(desk, 0, 0, 0, Ports.JUMP);
        expect("round and round in 0 to 2", desk, -1, 0);
        Ports.port(desk, 3, 0, Ports.RESULT, 0);
        expect("3 never comes", desk, -1, 0);
        desk.clear();
        Ports.constant(desk, 63, 0, 63, Ports.JUMP);
        expect("63, 0, 1 and 63 again", desk, -1, 0);
        desk.clear();
        for (int cycle = 0; cycle < 64; cycle += 3) {
            desk.move(cycle, 0, Ports.ifOne(cycle % 4), Ports.CONSTANT, 63 - cycle, Ports.JUMP);
        }
        expect("many ways: 63 leads to 0", desk, 0, 3);
    }

    private static void waysGoBackOftenAndOften() {
        Check.sentence("a judge looks at all ways that code can go");
        MoveDesk desk = new MoveDesk(2, 4, 3);
        Ports.constant(desk, 0, 0, 60, Ports.JUMP);
        for (int cycle = 60; cycle > 5; cycle -= 5) {
            Ports.constant(desk, cycle, 1, cycle - 5, Ports.JUMP);
        }
        expect("all JUMPS", desk, -1, 0);
        Ports.port(desk, 5, 0, Ports.RESULT + 1, 0);
        expect("the last one leads to a FAULT", desk, 5, 2);
        Ports.constant(desk, 12, 0, 1, Ports.MULTIPLY);
        expect("a product begun too late", desk, 5, 2);
        Ports.constant(desk, 16, 0, 1, Ports.MULTIPLY);
        expect("a product begun in time", desk, -1, 0);
    }

    private static void theObjectStaysAsItIs() {
        Check.sentence("The least cycle that may go WRONG (nothing else changes)");
        MoveDesk desk = new MoveDesk(3, 4, 1);
        Ports.meet(desk, 0, 1, 6, Ports.MULTIPLY, 7);
        Ports.constant(desk, 0, 2, 40, Ports.JUMP);
        Ports.port(desk, 1, 0, Ports.RESULT, 1);
        desk.operation(0, 0, 8, 8, 1);
        Check.same("run(9)", desk.run(9), 1);
        expect("as behind reset()", desk, 1, 2);
        int[] due = {1, 0, 0, 0, 0, 0, 0, 6, 0, 0, 0, 0, 0, 0, 0, 2};
        for (int what = 0; what < 16; what++) {
            Check.same("state(" + what + ")", desk.state(what), due[what]);
        }
        Check.same("fault(1)", desk.fault(1), 2);
        CodeView.expectCount(desk, 3, 4);
        Check.same("forget()", desk.forget(), 1);
        desk.free(1, 0);
        Check.same("run(3)", desk.run(3), 3);
        Check.same("the product", desk.state(13), 42);
        Check.same("PC", desk.state(0), 41);
    }
}
