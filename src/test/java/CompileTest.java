/** Promise 8: compile. */
public final class CompileTest {
    public static void main(String[] args) {
        none();
        movesOfEachKind();
        lowestBusesAndRegisters();
        resultsKeepTheirOrder();
        unitsAreKept();
        oldCodeGoes();
        tooLong();
        Check.end();
    }

    private static void expect(MoveDesk desk, int cycle, int bus, int source, int constant, int destination) {
        int[] due = {0, source, constant, destination};
        for (int what = 0; what < 4; what++) {
            Check.same("moveAt(" + cycle + ", " + bus + ", " + what + ")", desk.moveAt(cycle, bus, what), due[what]);
        }
    }

    private static void expectMoves(MoveDesk desk, int count) {
        int found = 0;
        for (int at = 0; at < 256; at++) {
            found += desk.moveAt(at / 4, at % 4, 0) == -1 ? 0 : 1;
        }
        Check.same("moves in all", found, count);
    }

    private static void none() {
        MoveDesk desk = new MoveDesk(3, 1, 1);
        desk.move(0, 2, 3, 11, 9, 9);
        Check.same("compile() of none", desk.compile(), 0);
        expect(desk, 0, 0, 11, 0, Ports.HALT);
        expectMoves(desk, 1);
    }

    private static void movesOfEachKind() {
        MoveDesk desk = new MoveDesk(4, 3, 2);
        desk.operation(0, 1, 8, 8, 5);
        desk.operation(1, 2, 8, 1, 6);
        desk.operation(2, 3, 2, 8, 7);
        desk.operation(3, 4, 8, 0, -8);
        desk.operation(4, 0, 4, 8, 9);
        Check.same("compile()", desk.compile(), 8);
        expect(desk, 0, 0, 11, 5, 8);
        expect(desk, 0, 1, 11, 5, 11);
        expect(desk, 1, 0, 8, 0, 1);
        expect(desk, 2, 0, 11, 6, 8);
        expect(desk, 2, 1, 1, 0, 12);
        expect(desk, 3, 0, 8, 0, 2);
        expect(desk, 4, 0, 2, 0, 9);
        expect(desk, 4, 1, 11, 7, 13);
        expect(desk, 7, 0, 9, 0, 3);
        expect(desk, 0, 2, 11, -8, 14);
        expect(desk, 2, 2, 10, 0, 4);
        expect(desk, 3, 1, 4, 0, 10);
        expect(desk, 3, 2, 11, 9, 15);
        expect(desk, 8, 0, 11, 0, Ports.HALT);
        expectMoves(desk, 14);
    }

    private static void lowestBusesAndRegisters() {
        MoveDesk desk = new MoveDesk(2, 1, 1);
        desk.operation(0, 0, 1, 2, 0);
        desk.operation(2, 1, 2, 3, 0);
        desk.operation(3, 2, 8, 0, 0);
        Check.same("compile() on two buses", desk.compile(), 5);
        expect(desk, 1, 0, 8, 0, 0);
        expect(desk, 2, 0, 2, 0, 9);
        expect(desk, 1, 1, 11, 0, 14);
        expect(desk, 3, 0, 9, 0, 1);
        expect(desk, 4, 0, 10, 0, 2);
        MoveDesk wide = new MoveDesk(4, 1, 1);
        wide.operation(0, 0, 1, 2, 0);
        wide.operation(2, 3, 2, 1, 0);
        wide.operation(4, 0, 8, 3, 1);
        Check.same("compile() on four", wide.compile(), 4);
        expect(wide, 0, 2, 2, 0, 9);
        expect(wide, 0, 3, 1, 0, 13);
        expect(wide, 1, 0, 8, 0, 0);
        expect(wide, 2, 0, 9, 0, 3);
        MoveDesk third = new MoveDesk(4, 1, 1);
        third.operation(0, 0, 1, 2, 0);
        third.operation(2, 3, 2, 4, 0);
        Check.same("a third register waits", third.compile(), 3);
        expect(third, 1, 0, 8, 0, 0);
        expect(third, 1, 1, 2, 0, 9);
        expect(third, 1, 2, 4, 0, 13);
    }

    private static void resultsKeepTheirOrder() {
        MoveDesk desk = new MoveDesk(4, 4, 1);
        desk.operation(2, 0, 1, 1, 0);
        desk.operation(0, 0, 8, 8, 2);
        Check.same("R behind the earlier R to it", desk.compile(), 6);
        expect(desk, 4, 0, 9, 0, 0);
        expect(desk, 5, 0, 8, 0, 0);
        MoveDesk reads = new MoveDesk(4, 4, 1);
        reads.operation(2, 0, 1, 1, 0);
        reads.operation(4, 0, 0, 5, 0);
        reads.operation(0, 5, 8, 8, 2);
        Check.same("R not ahead of what reads it", reads.compile(), 6);
        expect(reads, 5, 0, 0, 0, 10);
        expect(reads, 5, 1, 5, 0, 15);
        expect(reads, 5, 2, 8, 0, 5);
        expect(reads, 0, 2, 11, 2, 8);
    }

    private static void unitsAreKept() {
        MoveDesk desk = new MoveDesk(4, 4, 1);
        desk.operation(2, 0, 1, 1, 0);
        desk.operation(4, 0, 0, 5, 0);
        desk.operation(0, 5, 8, 8, 2);
        desk.operation(0, 6, 8, 8, 3);
        // The first sum's R is at 5, where one bus is left then: the second sum, which needs two, begins at 6.
        Check.same("a sum waits for the earlier sum's R", desk.compile(), 8);
        expect(desk, 5, 2, 8, 0, 5);
        expect(desk, 6, 0, 11, 3, 8);
        expect(desk, 6, 1, 11, 3, 11);
        expect(desk, 7, 0, 8, 0, 6);
        MoveDesk store = new MoveDesk(4, 4, 1);
        store.operation(2, 0, 1, 1, 0);
        store.operation(0, 7, 0, 5, 0);
        store.operation(3, 5, 8, 0, 2);
        store.operation(4, 0, 8, 8, 3);
        store.operation(3, 6, 8, 0, 4);
        Check.same("a load waits for the earlier load's R, a store does not", store.compile(), 8);
        expect(store, 0, 2, 11, 2, 14);
        expect(store, 5, 2, 10, 0, 5);
        expect(store, 1, 0, 11, 3, 10);
        expect(store, 1, 1, 11, 3, 15);
        expect(store, 5, 3, 11, 4, 14);
        expect(store, 6, 0, 8, 0, 7);
        expect(store, 7, 0, 10, 0, 6);
    }

    private static void oldCodeGoes() {
        MoveDesk desk = new MoveDesk(4, 1, 1);
        for (int at = 0; at < 256; at++) {
            desk.move(at / 4, at % 4, 1, 2, 3, 4);
        }
        desk.operation(4, 0, 8, 8, 1);
        desk.run(3);
        Check.same("compile()", desk.compile(), 1);
        expectMoves(desk, 3);
        Check.same("PC stays", desk.state(0), 3);
        Check.same("compile() again", desk.compile(), 1);
        Check.same("operations stay", desk.forget(), 1);
    }

    private static void tooLong() {
        MoveDesk desk = new MoveDesk(2, 4, 3);
        for (int i = 0; i < 12; i++) {
            desk.operation(2, 0, 0, 0, 0);
        }
        Check.same("twelve products", desk.compile(), 60);
        desk.operation(4, 0, 0, 0, 0);
        Check.same("and a store", desk.compile(), 61);
        desk.operation(0, 1, 0, 0, 0);
        desk.operation(0, 1, 1, 1, 0);
        desk.clear();
        desk.move(9, 1, 2, 3, 4, 5);
        Check.fails("and sums: R at 64", UnsupportedOperationException.class, () -> desk.compile());
        Check.same("the code stays", desk.moveAt(9, 1, 0), 2);
        expectMoves(desk, 1);
        MoveDesk halt = new MoveDesk(2, 4, 3);
        for (int i = 0; i < 12; i++) {
            halt.operation(2, 0, 0, 0, 0);
        }
        halt.operation(0, 1, 0, 0, 0);
        halt.operation(0, 1, 1, 1, 0);
        Check.fails("R at 63, HALT at 64", UnsupportedOperationException.class, () -> halt.compile());
        expectMoves(halt, 0);
        MoveDesk least = new MoveDesk(2, 4, 3);
        for (int i = 0; i < 12; i++) {
            least.operation(2, 0, 0, 0, 0);
        }
        least.operation(0, 1, 0, 8, 0);
        least.operation(4, 0, 1, 8, 0);
        Check.same("HALT at 63", least.compile(), 63);
        expect(least, 63, 0, 11, 0, Ports.HALT);
        for (int i = 14; i < 20; i++) {
            least.operation(2, 0, 0, 0, 0);
        }
        Check.fails("eighteen products", UnsupportedOperationException.class, () -> least.compile());
        expect(least, 63, 0, 11, 0, Ports.HALT);
    }
}
