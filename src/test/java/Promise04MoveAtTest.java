/** Promise 4: moveAt. */
public final class Promise04MoveAtTest {
    private static final int LEAST = Integer.MIN_VALUE;
    private static final int MOST = Integer.MAX_VALUE;

    public static void main(String[] args) {
        eachPart();
        partsThatAreNone();
        noMoveThere();
        noMoveThereAnyMore();
        noSuchCycle();
        noSuchBus();
        anotherWhat();
        askingChangesNothing();
        Check.end();
    }

    private static void eachPart() {
        Check.sentence("Of the move: guard (0), source (1), constant (2), destination (3).");
        MoveDesk desk = new MoveDesk(2, 1, 1);
        desk.move(7, 1, 6, 11, -9, 20);
        Check.same("guard", desk.moveAt(7, 1, 0), 6);
        Check.same("source", desk.moveAt(7, 1, 1), 11);
        Check.same("constant", desk.moveAt(7, 1, 2), -9);
        Check.same("destination", desk.moveAt(7, 1, 3), 20);
    }

    private static void partsThatAreNone() {
        Check.sentence("Of the move: .. constant (2)");
        MoveDesk desk = new MoveDesk(2, 1, 1);
        desk.move(0, 0, 0, 0, -1, 0);
        CodeView.expect(desk, 0, 0, 0, 0, -1, 0);
        desk.move(63, 1, 8, 11, LEAST, 25);
        CodeView.expect(desk, 63, 1, 8, 11, LEAST, 25);
        desk.move(63, 1, 8, 11, MOST, 25);
        CodeView.expect(desk, 63, 1, 8, 11, MOST, 25);
    }

    private static void noMoveThere() {
        Check.sentence("NONE if there is none such");
        MoveDesk desk = new MoveDesk(2, 1, 1);
        CodeView.expectNone(desk, 0, 0);
        desk.move(7, 1, 6, 11, -9, 20);
        CodeView.expectNone(desk, 7, 0);
        CodeView.expectNone(desk, 6, 1);
        CodeView.expectNone(desk, 8, 1);
        CodeView.expectNone(desk, 8, 0);
    }

    private static void noMoveThereAnyMore() {
        Check.sentence("NONE if there is none such");
        MoveDesk desk = new MoveDesk(2, 1, 1);
        desk.move(7, 1, 6, 11, 9, 20);
        desk.free(7, 1);
        CodeView.expectNone(desk, 7, 1);
        desk.move(7, 1, 6, 11, 9, 20);
        desk.clear();
        CodeView.expectNone(desk, 7, 1);
        desk.move(7, 1, 6, 11, 9, 20);
        desk.compile();
        CodeView.expectNone(desk, 7, 1);
    }

    private static void noSuchCycle() {
        Check.sentence("NONE if there is none such");
        MoveDesk desk = new MoveDesk(2, 1, 1);
        desk.move(0, 0, 1, 2, 3, 4);
        desk.move(63, 1, 1, 2, 3, 4);
        for (int cycle : new int[] {-1, 64, 65, -64, 127, 128, LEAST, MOST}) {
            CodeView.expectNone(desk, cycle, 0);
            CodeView.expectNone(desk, cycle, 1);
        }
    }

    private static void noSuchBus() {
        Check.sentence("NONE if there is none such");
        for (int buses = 2; buses <= 4; buses++) {
            MoveDesk desk = new MoveDesk(buses, 1, 1);
            for (int at = 0; at < 3 * buses; at++) {
                desk.move(at / buses, at % buses, 1, 2, 3, 4);
            }
            for (int bus : new int[] {-1, buses, buses + 1, 4, 5, LEAST, MOST}) {
                CodeView.expectNone(desk, 0, bus);
                CodeView.expectNone(desk, 1, bus);
                CodeView.expectNone(desk, 63, bus);
            }
        }
    }

    private static void anotherWhat() {
        Check.sentence("NONE .. for another what");
        MoveDesk desk = new MoveDesk(2, 1, 1);
        desk.move(7, 1, 6, 11, 9, 20);
        for (int what : new int[] {-1, 4, 5, LEAST, MOST}) {
            Check.same("moveAt(7, 1, " + what + ")", desk.moveAt(7, 1, what), -1);
            Check.same("moveAt(7, 0, " + what + ")", desk.moveAt(7, 0, what), -1);
            Check.same("moveAt(64, 2, " + what + ")", desk.moveAt(64, 2, what), -1);
        }
    }

    private static void askingChangesNothing() {
        Check.sentence("Of the move: guard (0), source (1), constant (2), destination (3).");
        MoveDesk desk = new MoveDesk(2, 1, 1);
        desk.moveAt(64, 2, 4);
        desk.moveAt(0, 0, 0);
        Check.no("free(0, 0)", desk.free(0, 0));
        desk.move(0, 0, 1, 2, 3, 4);
        CodeView.expect(desk, 0, 0, 1, 2, 3, 4);
        CodeView.expect(desk, 0, 0, 1, 2, 3, 4);
    }
}
