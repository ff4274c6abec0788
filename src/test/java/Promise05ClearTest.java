/** Promise 5: clear. */
public final class Promise05ClearTest {
    public static void main(String[] args) {
        fullCode();
        emptyCode();
        firstAndLastPlaces();
        codeMayComeAgain();
        onlyCodeGoes();
        whatIsUnderWayStays();
        Check.end();
    }

    private static void fullCode() {
        Check.sentence("All code goes.");
        for (int buses = 2; buses <= 4; buses++) {
            for (int bus = 0; bus < buses; bus++) {
                MoveDesk desk = new MoveDesk(buses, 1, 1);
                for (int at = 0; at < 64 * buses; at++) {
                    desk.move(at / buses, at % buses, 1, 2, 3, 4);
                }
                desk.clear();
                for (int cycle = 0; cycle < 64; cycle++) {
                    Check.same("moveAt(" + cycle + ", " + bus + ", 3)", desk.moveAt(cycle, bus, 3), -1);
                }
                Check.same("judge()", desk.judge(), -1);
            }
        }
    }

    private static void emptyCode() {
        Check.sentence("All code goes.");
        MoveDesk desk = new MoveDesk(2, 1, 1);
        desk.clear();
        desk.clear();
        CodeView.expectCount(desk, 2, 0);
        Check.same("run(65)", desk.run(65), 65);
    }

    private static void firstAndLastPlaces() {
        Check.sentence("All code goes.");
        MoveDesk desk = new MoveDesk(4, 1, 1);
        int[][] places = {{0, 0}, {0, 3}, {63, 0}, {63, 3}};
        for (int[] place : places) {
            desk.move(place[0], place[1], 0, 0, 0, 0);
        }
        desk.clear();
        for (int[] place : places) {
            CodeView.expectNone(desk, place[0], place[1]);
            Check.no("free(" + place[0] + ", " + place[1] + ")", desk.free(place[0], place[1]));
        }
    }

    private static void codeMayComeAgain() {
        Check.sentence("All code goes.");
        MoveDesk desk = new MoveDesk(2, 1, 1);
        Ports.constant(desk, 0, 0, 1, 1);
        Ports.constant(desk, 0, 1, 1, 2);
        desk.clear();
        Ports.constant(desk, 0, 1, 7, 3);
        CodeView.expectCount(desk, 2, 1);
        Check.same("run(1)", desk.run(1), 1);
        Check.same("peek(1)", desk.peek(1), 0);
        Check.same("peek(3)", desk.peek(3), 7);
    }

    private static void onlyCodeGoes() {
        Check.sentence("All code goes. (nothing else)");
        MoveDesk desk = new MoveDesk(4, 1, 1);
        Ports.meet(desk, 0, 0, 5, Ports.EQUAL + 1, 5);
        Ports.constant(desk, 0, 2, 6, 3);
        Ports.constant(desk, 1, 0, 4, Ports.ADD);
        Ports.port(desk, 2, 0, Ports.RESULT + 1, 1);
        desk.operation(0, 1, 2, 3, 4);
        desk.poke(71, 8);
        Check.same("run(9)", desk.run(9), 2);
        Check.same("judge()", desk.judge(), 2);
        desk.clear();
        int[] due = {2, 0, 0, 1, 0, 0, 5, 0, 0, 1, 0, 0, 9, 0, 0, 0};
        for (int what = 0; what < 16; what++) {
            Check.same("state(" + what + ")", desk.state(what), due[what]);
        }
        Check.same("peek(3)", desk.peek(3), 6);
        Check.same("peek(71)", desk.peek(71), 8);
        Check.same("fault(0)", desk.fault(0), 2);
        Check.same("fault(1)", desk.fault(1), 2);
        Check.same("forget()", desk.forget(), 1);
    }

    private static void whatIsUnderWayStays() {
        Check.sentence("All code goes. (a JUMP and a product under way are no code)");
        MoveDesk desk = new MoveDesk(3, 4, 1);
        Ports.meet(desk, 0, 1, 6, Ports.MULTIPLY, 7);
        Ports.constant(desk, 0, 2, 40, Ports.JUMP);
        desk.run(1);
        desk.clear();
        Check.same("run(2)", desk.run(2), 2);
        Check.same("PC", desk.state(0), 40);
        Check.same("no product yet", desk.state(10), 0);
        desk.run(1);
        Check.same("the product", desk.state(13), 42);
        desk.clear();
        Ports.constant(desk, 41, 0, 0, Ports.HALT);
        desk.run(1);
        desk.clear();
        Check.same("HALTED", desk.state(1), 1);
        Check.same("run(1) when HALTED", desk.run(1), 0);
    }
}
