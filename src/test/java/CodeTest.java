/** Promises 1 to 5: a new object, move, free, moveAt, clear. */
public final class CodeTest {
    public static void main(String[] args) {
        newObject();
        busesAreTheNearest();
        latenciesAreTheNearest();
        moves();
        wrongMoves();
        frees();
        movesTold();
        clears();
        Check.end();
    }

    private static void newObject() {
        MoveDesk desk = new MoveDesk(4, 2, 2);
        for (int cycle = 0; cycle < 64; cycle++) {
            for (int bus = 0; bus < 4; bus++) {
                Check.same("new moveAt(" + cycle + ", " + bus + ", 0)", desk.moveAt(cycle, bus, 0), -1);
            }
        }
        for (int k = 0; k < 72; k++) {
            Check.same("new peek(" + k + ")", desk.peek(k), 0);
        }
        for (int what = -1; what < 17; what++) {
            Check.same("new state(" + what + ")", desk.state(what), 0);
        }
        Check.same("new fault(0)", desk.fault(0), 0);
        Check.same("new fault(1)", desk.fault(1), 0);
        Check.same("new forget()", desk.forget(), 0);
    }

    private static void busesAreTheNearest() {
        int[][] given = {{Integer.MIN_VALUE, 2}, {1, 2}, {2, 2}, {3, 3}, {4, 4}, {5, 4}, {Integer.MAX_VALUE, 4}};
        for (int[] pair : given) {
            MoveDesk desk = new MoveDesk(pair[0], 1, 1);
            desk.move(0, pair[1] - 1, 0, 11, 0, 0);
            Check.fails("bus above, buses " + pair[0], IndexOutOfBoundsException.class,
                    () -> desk.move(0, pair[1], 0, 11, 0, 0));
        }
    }

    private static void latenciesAreTheNearest() {
        int[][] multiply = {{Integer.MIN_VALUE, 1}, {0, 1}, {1, 1}, {2, 2}, {3, 3}, {4, 4}, {5, 4},
            {Integer.MAX_VALUE, 4}};
        for (int[] pair : multiply) {
            Check.same("multiplier " + pair[0], latency(new MoveDesk(2, pair[0], 2), Ports.MULTIPLY, 10), pair[1]);
        }
        int[][] load = {{Integer.MIN_VALUE, 1}, {0, 1}, {1, 1}, {2, 2}, {3, 3}, {4, 3}, {Integer.MAX_VALUE, 3}};
        for (int[] pair : load) {
            Check.same("memory " + pair[0], latency(new MoveDesk(2, 2, pair[0]), Ports.LOAD, 11), pair[1]);
        }
        Check.same("adder", latency(new MoveDesk(2, 4, 3), Ports.ADD, 9), 1);
    }

    private static int latency(MoveDesk desk, int trigger, int what) {
        Ports.constant(desk, 0, 0, 1, trigger);
        int cycles = 0;
        while (cycles < 9 && desk.state(what) == 0) {
            cycles += desk.run(1);
        }
        return cycles;
    }

    private static void moves() {
        MoveDesk desk = new MoveDesk(3, 1, 1);
        desk.move(63, 2, 8, 11, Integer.MIN_VALUE, 25);
        same(desk, 63, 2, 8, 11, Integer.MIN_VALUE, 25);
        desk.move(63, 2, 3, 10, 77, 0);
        same(desk, 63, 2, 3, 10, 77, 0);
        Check.same("other bus", desk.moveAt(63, 1, 0), -1);
        Check.same("other cycle", desk.moveAt(62, 2, 0), -1);
    }

    private static void same(MoveDesk desk, int cycle, int bus, int... parts) {
        for (int what = 0; what < 4; what++) {
            Check.same("moveAt(" + cycle + ", " + bus + ", " + what + ")", desk.moveAt(cycle, bus, what), parts[what]);
        }
    }

    private static void wrongMoves() {
        MoveDesk desk = new MoveDesk(2, 1, 1);
        desk.move(5, 1, 1, 2, 3, 4);
        int[][] noPlace = {{-1, 0}, {64, 0}, {0, -1}, {0, 2}, {Integer.MIN_VALUE, 0}, {0, Integer.MAX_VALUE}};
        for (int[] place : noPlace) {
            Check.fails("move no place", IndexOutOfBoundsException.class,
                    () -> desk.move(place[0], place[1], 0, 0, 0, 0));
            Check.fails("move no place and no port", IndexOutOfBoundsException.class,
                    () -> desk.move(place[0], place[1], 9, 12, 0, 26));
        }
        int[][] noPort = {{-1, 0, 0}, {9, 0, 0}, {0, -1, 0}, {0, 12, 0}, {0, 0, -1}, {0, 0, 26},
            {Integer.MIN_VALUE, 0, 0}, {0, Integer.MAX_VALUE, 0}, {0, 0, Integer.MIN_VALUE}};
        for (int[] port : noPort) {
            Check.fails("move no port", IllegalArgumentException.class,
                    () -> desk.move(5, 1, port[0], port[1], 0, port[2]));
        }
        same(desk, 5, 1, 1, 2, 3, 4);
    }

    private static void frees() {
        MoveDesk desk = new MoveDesk(2, 1, 1);
        desk.move(0, 0, 0, 11, 1, 0);
        desk.move(0, 1, 0, 11, 2, 8);
        Check.yes("free(0, 1)", desk.free(0, 1));
        Check.no("free(0, 1) again", desk.free(0, 1));
        Check.same("moveAt(0, 1, 3)", desk.moveAt(0, 1, 3), -1);
        Check.same("moveAt(0, 0, 3)", desk.moveAt(0, 0, 3), 0);
        desk.run(1);
        Check.same("operand", desk.state(6), 0);
        Check.same("register", desk.peek(0), 1);
        int[][] noPlace = {{-1, 0}, {64, 0}, {0, -1}, {0, 2}};
        for (int[] place : noPlace) {
            Check.fails("free no place", IndexOutOfBoundsException.class, () -> desk.free(place[0], place[1]));
        }
    }

    private static void movesTold() {
        MoveDesk desk = new MoveDesk(2, 1, 1);
        desk.move(7, 1, 6, 11, -9, 20);
        Check.same("what -1", desk.moveAt(7, 1, -1), -1);
        Check.same("what 4", desk.moveAt(7, 1, 4), -1);
        Check.same("bus 2", desk.moveAt(7, 2, 0), -1);
        Check.same("bus -1", desk.moveAt(7, -1, 0), -1);
        Check.same("cycle -1", desk.moveAt(-1, 0, 0), -1);
        Check.same("cycle 64", desk.moveAt(64, 0, 0), -1);
        same(desk, 7, 1, 6, 11, -9, 20);
    }

    private static void clears() {
        MoveDesk desk = new MoveDesk(4, 1, 1);
        for (int cycle = 0; cycle < 64; cycle++) {
            desk.move(cycle, cycle % 4, 0, 11, 5, 3);
        }
        desk.operation(0, 1, 2, 3, 4);
        desk.run(2);
        desk.clear();
        for (int cycle = 0; cycle < 64; cycle++) {
            Check.no("free behind clear", desk.free(cycle, cycle % 4));
        }
        Check.same("PC stays", desk.state(0), 2);
        Check.same("registers stay", desk.peek(3), 5);
        Check.same("operations stay", desk.forget(), 1);
    }
}
