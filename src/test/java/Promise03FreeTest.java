/** Promise 3: free. */
public final class Promise03FreeTest {
    private static final int LEAST = Integer.MIN_VALUE;
    private static final int MOST = Integer.MAX_VALUE;

    public static void main(String[] args) {
        itHadOne();
        itHadNone();
        itHadOneNoMore();
        onlyThatBus();
        firstAndLastPlaces();
        whatIsFreedIsNotMade();
        noSuchCycle();
        noSuchBus();
        refusedCallsChangeNothing();
        Check.end();
    }

    private static void itHadOne() {
        Check.sentence("A bus of a cycle has no move: whether it had one.");
        MoveDesk desk = new MoveDesk(2, 1, 1);
        // Even a move whose numbers are all 0 is one.
        desk.move(3, 1, 0, 0, 0, 0);
        Check.yes("free(3, 1)", desk.free(3, 1));
        CodeView.expectNone(desk, 3, 1);
    }

    private static void itHadNone() {
        Check.sentence("A bus of a cycle has no move: whether it had one.");
        MoveDesk desk = new MoveDesk(2, 1, 1);
        Check.no("free(3, 1)", desk.free(3, 1));
        CodeView.expectNone(desk, 3, 1);
    }

    private static void itHadOneNoMore() {
        Check.sentence("A bus of a cycle has no move: whether it had one.");
        MoveDesk desk = new MoveDesk(2, 1, 1);
        desk.move(3, 1, 8, 11, 9, 25);
        Check.yes("free(3, 1)", desk.free(3, 1));
        Check.no("free(3, 1) again", desk.free(3, 1));
        desk.move(3, 1, 8, 11, 9, 25);
        Check.yes("free(3, 1) of a new one", desk.free(3, 1));
        desk.move(3, 1, 8, 11, 9, 25);
        desk.clear();
        Check.no("free(3, 1) behind clear()", desk.free(3, 1));
        desk.compile();
        Check.yes("free(0, 0) of a compiled one", desk.free(0, 0));
    }

    private static void onlyThatBus() {
        Check.sentence("A bus of a cycle has no move");
        MoveDesk desk = new MoveDesk(4, 1, 1);
        for (int at = 0; at < 12; at++) {
            desk.move(10 + at / 4, at % 4, 1, 2, 3, 4);
        }
        Check.yes("free(11, 2)", desk.free(11, 2));
        for (int at = 0; at < 12; at++) {
            Check.same("moveAt", desk.moveAt(10 + at / 4, at % 4, 3), at == 6 ? -1 : 4);
        }
    }

    private static void firstAndLastPlaces() {
        Check.sentence("A bus of a cycle has no move: whether it had one.");
        for (int buses = 2; buses <= 4; buses++) {
            MoveDesk desk = new MoveDesk(buses, 1, 1);
            int[][] places = {{0, 0}, {0, buses - 1}, {63, 0}, {63, buses - 1}};
            for (int[] place : places) {
                Check.no("free(" + place[0] + ", " + place[1] + ")", desk.free(place[0], place[1]));
                desk.move(place[0], place[1], 0, 0, 0, 0);
                Check.yes("free(" + place[0] + ", " + place[1] + ")", desk.free(place[0], place[1]));
            }
        }
    }

    private static void whatIsFreedIsNotMade() {
        Check.sentence("A bus of a cycle has no move");
        MoveDesk desk = new MoveDesk(2, 1, 1);
        Ports.constant(desk, 0, 0, 1, 0);
        Ports.constant(desk, 0, 1, 2, 1);
        Check.same("judge() of two registers written", desk.judge(), 0);
        desk.free(0, 1);
        Check.same("judge() of one", desk.judge(), -1);
        Check.same("run(1)", desk.run(1), 1);
        Check.same("kept", desk.peek(0), 1);
        Check.same("freed", desk.peek(1), 0);
    }

    private static void noSuchCycle() {
        Check.sentence("IndexOutOfBoundsException: no such cycle or bus.");
        MoveDesk desk = new MoveDesk(2, 1, 1);
        for (int cycle : new int[] {-1, 64, 65, -64, LEAST, MOST}) {
            Check.fails("free(" + cycle + ", 0)", IndexOutOfBoundsException.class, () -> desk.free(cycle, 0));
            Check.fails("free(" + cycle + ", 1)", IndexOutOfBoundsException.class, () -> desk.free(cycle, 1));
        }
    }

    private static void noSuchBus() {
        Check.sentence("IndexOutOfBoundsException: no such cycle or bus.");
        for (int buses = 2; buses <= 4; buses++) {
            MoveDesk desk = new MoveDesk(buses, 1, 1);
            for (int bus : new int[] {-1, buses, buses + 1, 4, LEAST, MOST}) {
                Check.fails("free(0, " + bus + ")", IndexOutOfBoundsException.class, () -> desk.free(0, bus));
                Check.fails("free(63, " + bus + ")", IndexOutOfBoundsException.class, () -> desk.free(63, bus));
            }
        }
    }

    private static void refusedCallsChangeNothing() {
        Check.sentence("IndexOutOfBoundsException: no such cycle or bus.");
        MoveDesk desk = new MoveDesk(2, 1, 1);
        for (int cycle = 0; cycle < 64; cycle++) {
            desk.move(cycle, 0, 1, 2, 3, 4);
            desk.move(cycle, 1, 1, 2, 3, 4);
        }
        int[][] noPlace = {{-1, 0}, {-1, 1}, {64, 0}, {64, 1}, {0, -1}, {63, -1}, {0, 2}, {63, 2}, {64, 2}};
        for (int[] place : noPlace) {
            Check.fails("free(" + place[0] + ", " + place[1] + ")", IndexOutOfBoundsException.class,
                    () -> desk.free(place[0], place[1]));
        }
        CodeView.expectCount(desk, 2, 128);
    }
}
