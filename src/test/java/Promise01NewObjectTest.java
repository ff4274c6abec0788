/** Promise 1: a new object. */
public final class Promise01NewObjectTest {
    private static final int LEAST = Integer.MIN_VALUE;
    private static final int MOST = Integer.MAX_VALUE;

    public static void main(String[] args) {
        busesTooFew();
        busesTooMany();
        busesThatMayBe();
        multiplyTooSmall();
        multiplyTooLarge();
        multiplyThatMayBe();
        loadTooSmall();
        loadTooLarge();
        loadThatMayBe();
        allThreeAtOnce();
        noCode();
        noOperations();
        allAreZeroAtFirst();
        nothingIsTold();
        objectsAreApart();
        Check.end();
    }

    private static void nearest() {
        Check.sentence("B, M, L are buses, multiply, load (each the nearest that may be).");
    }

    private static void busesTooFew() {
        nearest();
        for (int given : new int[] {1, 0, -1, -3, -4, -100, LEAST}) {
            expectBuses(given, 2);
        }
    }

    private static void busesTooMany() {
        nearest();
        for (int given : new int[] {5, 6, 64, MOST}) {
            expectBuses(given, 4);
        }
    }

    private static void busesThatMayBe() {
        nearest();
        for (int given = 2; given <= 4; given++) {
            expectBuses(given, given);
        }
    }

    private static void expectBuses(int given, int due) {
        MoveDesk desk = new MoveDesk(given, 1, 1);
        String name = " of MoveDesk(" + given + ", 1, 1)";
        desk.move(0, due - 1, 0, 11, 0, 0);
        Check.same("last bus" + name, desk.moveAt(0, due - 1, 1), 11);
        Check.fails("move on a bus more" + name, IndexOutOfBoundsException.class,
                () -> desk.move(0, due, 0, 11, 0, 0));
        Check.yes("free of the last bus" + name, desk.free(0, due - 1));
        Check.fails("free of a bus more" + name, IndexOutOfBoundsException.class, () -> desk.free(0, due));
        for (int i = 0; i < 4; i++) {
            desk.operation(3, i, 8, 0, i);
        }
        // A load a cycle, and the R of the one ahead: two buses are enough. Sums want one more.
        Check.same("compile() of loads" + name, desk.compile(), 5);
        desk.forget();
        for (int i = 0; i < 4; i++) {
            desk.operation(0, i, 8, 8, i);
        }
        Check.same("compile() of sums" + name, desk.compile(), due == 2 ? 8 : 5);
        desk.forget();
        desk.operation(0, 0, 8, 8, 0);
        desk.operation(2, 1, 8, 8, 0);
        Check.same("compile() of a sum and a product" + name, desk.compile(), due == 2 ? 4 : 3);
        Check.same("the product's trigger" + name, desk.moveAt(due == 4 ? 0 : due == 3 ? 1 : 2, due == 2 ? 1 : due - 1, 3),
                Ports.MULTIPLY);
    }

    private static void multiplyTooSmall() {
        nearest();
        for (int given : new int[] {0, -1, -2, -4, -100, LEAST}) {
            expectLatency(new MoveDesk(2, given, 2), "multiply " + given, 1, 1);
        }
    }

    private static void multiplyTooLarge() {
        nearest();
        for (int given : new int[] {5, 6, 100, MOST}) {
            expectLatency(new MoveDesk(2, given, 2), "multiply " + given, 1, 4);
        }
    }

    private static void multiplyThatMayBe() {
        nearest();
        for (int given = 1; given <= 4; given++) {
            expectLatency(new MoveDesk(2, given, 2), "multiply " + given, 1, given);
        }
    }

    private static void loadTooSmall() {
        nearest();
        for (int given : new int[] {0, -1, -2, -3, -100, LEAST}) {
            expectLatency(new MoveDesk(2, 2, given), "load " + given, 2, 1);
        }
    }

    private static void loadTooLarge() {
        nearest();
        for (int given : new int[] {4, 5, 100, MOST}) {
            expectLatency(new MoveDesk(2, 2, given), "load " + given, 2, 3);
        }
    }

    private static void loadThatMayBe() {
        nearest();
        for (int given = 1; given <= 3; given++) {
            expectLatency(new MoveDesk(2, 2, given), "load " + given, 2, given);
        }
    }

    private static void allThreeAtOnce() {
        nearest();
        MoveDesk least = new MoveDesk(LEAST, LEAST, LEAST);
        Check.fails("bus 2 of the least", IndexOutOfBoundsException.class, () -> least.free(0, 2));
        expectLatency(least, "the least", 1, 1);
        expectLatency(least, "the least", 2, 1);
        expectLatency(least, "the least", 0, 1);
        MoveDesk most = new MoveDesk(MOST, MOST, MOST);
        Check.fails("bus 4 of the most", IndexOutOfBoundsException.class, () -> most.free(0, 4));
        expectLatency(most, "the most", 1, 4);
        expectLatency(most, "the most", 2, 3);
        expectLatency(most, "the most", 0, 1);
    }

    /** Processor, judge and compiler must all have the same latency. */
    private static void expectLatency(MoveDesk desk, String name, int unit, int due) {
        desk.clear();
        desk.reset();
        Ports.constant(desk, 0, 0, 1, Ports.BEGIN[unit]);
        for (int made = 1; made <= 5; made++) {
            desk.run(1);
            Check.same(name + ": state(" + (9 + unit) + ") behind " + made, desk.state(9 + unit), made < due ? 0 : 1);
        }
        for (int behind = 1; behind <= 5; behind++) {
            Ports.port(desk, behind, 0, Ports.RESULT + unit, 0);
            Check.same(name + ": judge() of a read " + behind + " behind", desk.judge(), behind < due ? behind : -1);
            desk.free(behind, 0);
        }
        desk.forget();
        desk.operation(new int[] {0, 2, 3}[unit], 0, 8, 0, 0);
        Check.same(name + ": compile()", desk.compile(), due + 1);
        Check.same(name + ": R", desk.moveAt(due, 0, 1), Ports.RESULT + unit);
    }

    private static void noCode() {
        Check.sentence("No code, no operations.");
        for (int buses = 2; buses <= 4; buses++) {
            CodeView.expectCount(new MoveDesk(buses, 2, 2), 4, 0);
            MoveDesk desk = new MoveDesk(buses, 2, 2);
            for (int cycle = 0; cycle < 64; cycle++) {
                for (int bus = 0; bus < buses; bus++) {
                    Check.no("free(" + cycle + ", " + bus + ")", desk.free(cycle, bus));
                }
            }
            Check.same("judge()", desk.judge(), -1);
        }
    }

    private static void noOperations() {
        Check.sentence("No code, no operations.");
        Check.same("forget()", new MoveDesk(4, 2, 2).forget(), 0);
        Check.same("compile()", new MoveDesk(4, 2, 2).compile(), 0);
        Check.same("operation()", new MoveDesk(4, 2, 2).operation(0, 0, 0, 0, 0), 1);
        MoveDesk desk = new MoveDesk(4, 2, 2);
        for (int k = 0; k < 72; k++) {
            Check.same("done(" + k + ")", desk.done(k), 0);
        }
    }

    private static void allAreZeroAtFirst() {
        Check.sentence("All are 0 at first.");
        MoveDesk desk = new MoveDesk(4, 2, 2);
        for (int k = 0; k < 72; k++) {
            Check.same("peek(" + k + ")", desk.peek(k), 0);
        }
        for (int what = 0; what < 16; what++) {
            Check.same("state(" + what + ")", desk.state(what), 0);
        }
    }

    private static void nothingIsTold() {
        Check.sentence("0 if it told none (what = 0); 0 if at none (1)");
        MoveDesk desk = new MoveDesk(4, 2, 2);
        Check.same("fault(0)", desk.fault(0), 0);
        Check.same("fault(1)", desk.fault(1), 0);
    }

    private static void objectsAreApart() {
        Check.sentence("A new object");
        MoveDesk one = new MoveDesk(2, 1, 1);
        one.move(0, 0, 0, 11, 5, 1);
        one.operation(0, 0, 8, 8, 7);
        one.poke(71, 9);
        one.run(1);
        MoveDesk other = new MoveDesk(2, 1, 1);
        CodeView.expectNone(other, 0, 0);
        Check.same("forget() of the other", other.forget(), 0);
        Check.same("peek(71) of the other", other.peek(71), 0);
        Check.same("peek(1) of the other", other.peek(1), 0);
        Check.same("state(0) of the other", other.state(0), 0);
        Check.same("forget() of the one", one.forget(), 1);
    }
}
