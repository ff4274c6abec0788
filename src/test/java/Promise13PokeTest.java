/** Promise 13: poke. */
public final class Promise13PokeTest {
    private static final int LEAST = Integer.MIN_VALUE;
    private static final int MOST = Integer.MAX_VALUE;

    public static void main(String[] args) {
        everyPlace();
        firstAndLastPlaces();
        anyNumber();
        movesAndLoadsSeeIt();
        whatIsUnderWayDoesNot();
        noSuchPlace();
        refusedCallsChangeNothing();
        Check.end();
    }

    private static void everyPlace() {
        Check.sentence("Register k, or word k - 8 of MEMORY (k 8 .. 71), becomes v.");
        MoveDesk desk = new MoveDesk(2, 1, 1);
        for (int k = 0; k < 72; k++) {
            desk.poke(k, 1000 - 17 * k);
        }
        for (int k = 0; k < 72; k++) {
            Check.same("peek(" + k + ")", desk.peek(k), 1000 - 17 * k);
        }
    }

    private static void firstAndLastPlaces() {
        Check.sentence("Register k, or word k - 8 of MEMORY (k 8 .. 71), becomes v.");
        for (int k : new int[] {0, 7, 8, 71}) {
            MoveDesk desk = new MoveDesk(2, 1, 1);
            desk.poke(k, 5);
            for (int other = 0; other < 72; other++) {
                Check.same("poke(" + k + ", 5), peek(" + other + ")", desk.peek(other), other == k ? 5 : 0);
            }
        }
    }

    private static void anyNumber() {
        Check.sentence("becomes v (32-bit numbers)");
        MoveDesk desk = new MoveDesk(2, 1, 1);
        for (int v : new int[] {LEAST, -1, 0, 1, MOST, 0}) {
            desk.poke(0, v);
            desk.poke(71, v);
            Check.same("peek(0)", desk.peek(0), v);
            Check.same("peek(71)", desk.peek(71), v);
        }
    }

    private static void movesAndLoadsSeeIt() {
        Check.sentence("Register k, or word k - 8 of MEMORY, becomes v.");
        MoveDesk desk = new MoveDesk(2, 1, 1);
        Ports.port(desk, 0, 0, 7, 0);
        Ports.constant(desk, 0, 1, 63, Ports.LOAD);
        Ports.port(desk, 1, 0, Ports.RESULT + 2, 1);
        Ports.constant(desk, 1, 1, 0, Ports.LOAD);
        Ports.port(desk, 2, 0, Ports.RESULT + 2, 2);
        desk.poke(7, 10);
        desk.poke(71, 20);
        desk.poke(8, 30);
        desk.run(3);
        Check.same("register 7", desk.peek(0), 10);
        Check.same("word 63", desk.peek(1), 20);
        Check.same("word 0", desk.peek(2), 30);
    }

    private static void whatIsUnderWayDoesNot() {
        Check.sentence("Register k, or word k - 8 of MEMORY, becomes v. (nothing else)");
        MoveDesk desk = new MoveDesk(2, 1, 3);
        desk.poke(8, 5);
        Ports.constant(desk, 0, 0, 0, Ports.LOAD);
        desk.run(1);
        desk.poke(8, 6);
        desk.run(2);
        Check.same("the word as it was when the load began", desk.state(14), 5);
        desk.poke(8, 7);
        Check.same("the result stays", desk.state(14), 5);
        Check.same("state(0)", desk.state(0), 3);
        Ports.constant(desk, 3, 0, 0, Ports.HALT);
        desk.run(1);
        desk.poke(8, 9);
        Check.same("peek(8) when HALTED", desk.peek(8), 9);
        Check.same("state(1)", desk.state(1), 1);
    }

    private static void noSuchPlace() {
        Check.sentence("IndexOutOfBoundsException: there is none such.");
        MoveDesk desk = new MoveDesk(2, 1, 1);
        for (int k : new int[] {-1, -8, 72, 73, 80, LEAST, MOST}) {
            Check.fails("poke(" + k + ", 1)", IndexOutOfBoundsException.class, () -> desk.poke(k, 1));
        }
    }

    private static void refusedCallsChangeNothing() {
        Check.sentence("IndexOutOfBoundsException: there is none such.");
        MoveDesk desk = new MoveDesk(2, 1, 1);
        for (int k : new int[] {-1, 72, 136, LEAST, MOST}) {
            Check.fails("poke(" + k + ", 1)", IndexOutOfBoundsException.class, () -> desk.poke(k, 1));
        }
        for (int k = 0; k < 72; k++) {
            Check.same("peek(" + k + ")", desk.peek(k), 0);
        }
    }
}
