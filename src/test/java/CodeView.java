/** What tests ask about the code of a desk. */
final class CodeView {
    private CodeView() {
    }

    static void expect(MoveDesk desk, int cycle, int bus, int guard, int source, int constant, int destination) {
        int[] due = {guard, source, constant, destination};
        for (int what = 0; what < 4; what++) {
            Check.same("moveAt(" + cycle + ", " + bus + ", " + what + ")", desk.moveAt(cycle, bus, what), due[what]);
        }
    }

    static void expectNone(MoveDesk desk, int cycle, int bus) {
        for (int what = 0; what < 4; what++) {
            Check.same("moveAt(" + cycle + ", " + bus + ", " + what + ")", desk.moveAt(cycle, bus, what), -1);
        }
    }

    /** All buses of all cycles are looked at: 64 calls a bus, of the 512 that an object is made for. */
    static void expectCount(MoveDesk desk, int buses, int count) {
        int found = 0;
        for (int cycle = 0; cycle < 64; cycle++) {
            for (int bus = 0; bus < buses; bus++) {
                found += desk.moveAt(cycle, bus, 3) == -1 ? 0 : 1;
            }
        }
        Check.same("moves in all", found, count);
    }
}
