/** Promise 2: move. */
public final class Promise02MoveTest {
    private static final int LEAST = Integer.MIN_VALUE;
    private static final int MOST = Integer.MAX_VALUE;

    public static void main(String[] args) {
        firstAndLastPlaces();
        everyBusOfEveryCycle();
        everyGuardSourceAndDestination();
        anyConstant();
        anotherMoveOnTheBus();
        noSuchCycle();
        noSuchBus();
        noSuchGuard();
        noSuchSource();
        noSuchDestination();
        noPlaceAndNoPort();
        refusedCallsChangeNothing();
        Check.end();
    }

    private static void firstAndLastPlaces() {
        Check.sentence("A bus of a cycle has that move.");
        for (int buses = 2; buses <= 4; buses++) {
            MoveDesk desk = new MoveDesk(buses, 1, 1);
            desk.move(0, 0, 1, 2, 3, 4);
            desk.move(0, buses - 1, 2, 3, 4, 5);
            desk.move(63, 0, 3, 4, 5, 6);
            desk.move(63, buses - 1, 4, 5, 6, 7);
            CodeView.expect(desk, 0, 0, 1, 2, 3, 4);
            CodeView.expect(desk, 0, buses - 1, 2, 3, 4, 5);
            CodeView.expect(desk, 63, 0, 3, 4, 5, 6);
            CodeView.expect(desk, 63, buses - 1, 4, 5, 6, 7);
            CodeView.expectCount(desk, buses, 4);
        }
    }

    private static void everyBusOfEveryCycle() {
        Check.sentence("CODE: 64 CYCLES; in each a bus has at most one MOVE");
        for (int buses = 2; buses <= 4; buses++) {
            MoveDesk desk = new MoveDesk(buses, 1, 1);
            for (int at = 0; at < 64 * buses; at++) {
                desk.move(at / buses, at % buses, at % 9, at % 12, at, at % 26);
            }
            int what = buses - 1;
            for (int at = 0; at < 64 * buses; at++) {
                int[] due = {at % 9, at % 12, at, at % 26};
                Check.same("moveAt of " + at, desk.moveAt(at / buses, at % buses, what), due[what]);
            }
        }
    }

    private static void everyGuardSourceAndDestination() {
        Check.sentence("a guard (0 none, 1 + g, 5 + g), a source, a constant, a destination");
        MoveDesk desk = new MoveDesk(2, 1, 1);
        for (int guard = 0; guard <= 8; guard++) {
            desk.move(7, 1, guard, 0, 0, 0);
            CodeView.expect(desk, 7, 1, guard, 0, 0, 0);
        }
        for (int source = 0; source <= 11; source++) {
            desk.move(7, 1, 0, source, 0, 0);
            CodeView.expect(desk, 7, 1, 0, source, 0, 0);
        }
        for (int destination = 0; destination <= 25; destination++) {
            desk.move(7, 1, 0, 0, 0, destination);
            CodeView.expect(desk, 7, 1, 0, 0, 0, destination);
        }
    }

    private static void anyConstant() {
        Check.sentence("A bus of a cycle has that move. (32-bit numbers)");
        MoveDesk desk = new MoveDesk(2, 1, 1);
        for (int constant : new int[] {LEAST, -65, -64, -1, 0, 1, 63, 64, 65, MOST}) {
            desk.move(9, 0, 8, 11, constant, 25);
            CodeView.expect(desk, 9, 0, 8, 11, constant, 25);
            desk.move(9, 1, 0, 3, constant, 2);
            CodeView.expect(desk, 9, 1, 0, 3, constant, 2);
        }
    }

    private static void anotherMoveOnTheBus() {
        Check.sentence("in each a bus has at most one MOVE");
        MoveDesk desk = new MoveDesk(2, 1, 1);
        desk.move(0, 0, 0, 11, 5, 1);
        desk.move(0, 0, 0, 11, 6, 2);
        CodeView.expect(desk, 0, 0, 0, 11, 6, 2);
        CodeView.expectCount(desk, 2, 1);
        Check.same("run(1)", desk.run(1), 1);
        Check.same("the earlier one is not made", desk.peek(1), 0);
        Check.same("the later one is made", desk.peek(2), 6);
        Check.yes("free(0, 0)", desk.free(0, 0));
        Check.no("free(0, 0) again", desk.free(0, 0));
    }

    private static void noSuchCycle() {
        Check.sentence("IndexOutOfBoundsException: no such cycle or bus.");
        MoveDesk desk = new MoveDesk(2, 1, 1);
        for (int cycle : new int[] {-1, 64, 65, -64, 128, LEAST, MOST}) {
            Check.fails("move(" + cycle + ", 0, ..)", IndexOutOfBoundsException.class,
                    () -> desk.move(cycle, 0, 0, 0, 0, 0));
            Check.fails("move(" + cycle + ", 1, ..)", IndexOutOfBoundsException.class,
                    () -> desk.move(cycle, 1, 8, 11, 0, 25));
        }
        CodeView.expectCount(desk, 2, 0);
    }

    private static void noSuchBus() {
        Check.sentence("IndexOutOfBoundsException: no such cycle or bus.");
        for (int buses = 2; buses <= 4; buses++) {
            MoveDesk desk = new MoveDesk(buses, 1, 1);
            for (int bus : new int[] {-1, buses, buses + 1, 4, 5, 64, LEAST, MOST}) {
                Check.fails("move(0, " + bus + ", ..)", IndexOutOfBoundsException.class,
                        () -> desk.move(0, bus, 0, 0, 0, 0));
                Check.fails("move(63, " + bus + ", ..)", IndexOutOfBoundsException.class,
                        () -> desk.move(63, bus, 8, 11, 0, 25));
            }
            CodeView.expectCount(desk, 4, 0);
        }
    }

    private static void noSuchGuard() {
        Check.sentence("IllegalArgumentException: no such guard, source or destination.");
        MoveDesk desk = new MoveDesk(2, 1, 1);
        for (int guard : new int[] {-1, 9, 10, LEAST, MOST}) {
            Check.fails("move(0, 0, " + guard + ", 0, 0, 0)", IllegalArgumentException.class,
                    () -> desk.move(0, 0, guard, 0, 0, 0));
        }
        CodeView.expectNone(desk, 0, 0);
    }

    private static void noSuchSource() {
        Check.sentence("IllegalArgumentException: no such guard, source or destination.");
        MoveDesk desk = new MoveDesk(2, 1, 1);
        for (int source : new int[] {-1, 12, 13, LEAST, MOST}) {
            Check.fails("move(0, 0, 0, " + source + ", 0, 0)", IllegalArgumentException.class,
                    () -> desk.move(0, 0, 0, source, 0, 0));
        }
        CodeView.expectNone(desk, 0, 0);
    }

    private static void noSuchDestination() {
        Check.sentence("IllegalArgumentException: no such guard, source or destination.");
        MoveDesk desk = new MoveDesk(2, 1, 1);
        for (int destination : new int[] {-1, 26, 27, LEAST, MOST}) {
            Check.fails("move(0, 0, 0, 0, 0, " + destination + ")", IllegalArgumentException.class,
                    () -> desk.move(0, 0, 0, 0, 0, destination));
        }
        CodeView.expectNone(desk, 0, 0);
    }

    private static void noPlaceAndNoPort() {
        Check.sentence("IndexOutOfBoundsException: .. IllegalArgumentException: .. (the one told first)");
        MoveDesk desk = new MoveDesk(2, 1, 1);
        int[][] noPlace = {{-1, 0}, {64, 0}, {0, -1}, {0, 2}};
        for (int[] place : noPlace) {
            Check.fails("move of no port to no place", IndexOutOfBoundsException.class,
                    () -> desk.move(place[0], place[1], 9, 12, 0, 26));
        }
    }

    private static void refusedCallsChangeNothing() {
        Check.sentence("A bus of a cycle has that move. (a refused one is none)");
        MoveDesk desk = new MoveDesk(2, 1, 1);
        desk.move(5, 1, 1, 2, 3, 4);
        int[][] noPort = {{-1, 0, 0}, {9, 0, 0}, {0, -1, 0}, {0, 12, 0}, {0, 0, -1}, {0, 0, 26}};
        for (int[] port : noPort) {
            Check.fails("move on a taken bus", IllegalArgumentException.class,
                    () -> desk.move(5, 1, port[0], port[1], 7, port[2]));
            CodeView.expect(desk, 5, 1, 1, 2, 3, 4);
        }
        Check.fails("move(5, 2, ..)", IndexOutOfBoundsException.class, () -> desk.move(5, 2, 0, 0, 7, 0));
        CodeView.expect(desk, 5, 1, 1, 2, 3, 4);
        CodeView.expectCount(desk, 2, 1);
    }
}
