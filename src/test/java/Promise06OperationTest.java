/** Promise 6: operation. */
public final class Promise06OperationTest {
    private static final int LEAST = Integer.MIN_VALUE;
    private static final int MOST = Integer.MAX_VALUE;

    public static void main(String[] args) {
        howManyThereAre();
        thereAreTwenty();
        theTwentiethCounts();
        twentyAndNotAsTold();
        firstAndLastKindsAndRegisters();
        anyConstant();
        noSuchKind();
        noSuchRegister();
        noSuchA();
        noSuchB();
        bOfALoad();
        dOfAStore();
        refusedCallsChangeNothing();
        onlyOperationsChange();
        Check.end();
    }

    private static MoveDesk full() {
        MoveDesk desk = new MoveDesk(2, 1, 1);
        for (int i = 0; i < 20; i++) {
            desk.operation(0, 0, 0, 8, 1);
        }
        return desk;
    }

    private static void howManyThereAre() {
        Check.sentence("One operation more: how many there are.");
        MoveDesk desk = new MoveDesk(2, 1, 1);
        for (int i = 1; i <= 20; i++) {
            Check.same("operation " + i, desk.operation(i % 3, 0, 0, 8, 1), i);
        }
        desk.forget();
        Check.same("operation behind forget()", desk.operation(0, 0, 8, 8, 4), 1);
    }

    private static void thereAreTwenty() {
        Check.sentence("IllegalStateException: there are 20.");
        MoveDesk desk = full();
        for (int kind = 0; kind <= 4; kind++) {
            int given = kind;
            Check.fails("operation 21", IllegalStateException.class, () -> desk.operation(given, 0, 0, 0, 0));
        }
        Check.same("forget()", desk.forget(), 20);
        for (int i = 1; i <= 20; i++) {
            Check.same("operation behind forget()", desk.operation(0, 0, 0, 8, 1), i);
        }
        Check.fails("operation 21 again", IllegalStateException.class, () -> desk.operation(0, 0, 0, 8, 1));
    }

    private static void theTwentiethCounts() {
        Check.sentence("OPERATIONS, at most 20");
        MoveDesk desk = full();
        Check.same("done(0)", desk.done(0), 20);
        Check.fails("operation 21", IllegalStateException.class, () -> desk.operation(0, 0, 8, 8, 500));
        Check.same("done(0) then", desk.done(0), 20);
    }

    private static void twentyAndNotAsTold() {
        Check.sentence("IllegalArgumentException: .. IllegalStateException: .. (the one told first)");
        MoveDesk desk = full();
        Check.fails("kind 5 as operation 21", IllegalArgumentException.class, () -> desk.operation(5, 0, 0, 0, 0));
        Check.fails("b 9 as operation 21", IllegalArgumentException.class, () -> desk.operation(0, 0, 0, 9, 0));
        Check.same("forget()", desk.forget(), 20);
    }

    private static void firstAndLastKindsAndRegisters() {
        Check.sentence("kinds 0 add .. 4 store; to register d; a, b: registers 0 .. 7, or 8, the constant c");
        int[][] right = {{0, 0, 0, 0}, {0, 7, 8, 8}, {0, 7, 7, 7}, {1, 0, 8, 0}, {1, 7, 0, 8}, {2, 0, 7, 8},
            {2, 7, 8, 7}, {3, 0, 0, 0}, {3, 7, 8, 0}, {3, 7, 7, 0}, {4, 0, 0, 0}, {4, 0, 8, 8}, {4, 0, 7, 7},
            {4, 0, 0, 8}, {4, 0, 8, 0}};
        MoveDesk desk = new MoveDesk(2, 1, 1);
        int count = 0;
        for (int[] o : right) {
            count++;
            Check.same(name(o), desk.operation(o[0], o[1], o[2], o[3], 3), count);
        }
    }

    private static String name(int[] o) {
        return "operation(" + o[0] + ", " + o[1] + ", " + o[2] + ", " + o[3] + ", ..)";
    }

    private static void anyConstant() {
        Check.sentence("or 8, the constant c");
        for (int c : new int[] {LEAST, -65, -1, 0, 1, 64, MOST}) {
            MoveDesk desk = new MoveDesk(2, 1, 1);
            Check.same("operation of " + c, desk.operation(0, 0, 8, 7, c), 1);
            Check.same("done(0) of " + c, desk.done(0), c);
            Check.same("operation of no constant, with " + c, desk.operation(0, 0, 7, 7, c), 2);
            Check.same("done(0) of no constant, with " + c, desk.done(0), 0);
        }
    }

    private static void expectRefused(int[][] wrong) {
        Check.sentence("IllegalArgumentException: it is not as told.");
        MoveDesk desk = new MoveDesk(2, 1, 1);
        for (int[] o : wrong) {
            Check.fails(name(o), IllegalArgumentException.class, () -> desk.operation(o[0], o[1], o[2], o[3], 0));
        }
        Check.same("forget()", desk.forget(), 0);
    }

    private static void noSuchKind() {
        expectRefused(new int[][] {{-1, 0, 0, 0}, {5, 0, 0, 0}, {6, 0, 0, 0}, {LEAST, 0, 0, 0}, {MOST, 0, 0, 0}});
    }

    private static void noSuchRegister() {
        for (int kind = 0; kind <= 3; kind++) {
            expectRefused(new int[][] {{kind, -1, 0, 0}, {kind, 8, 0, 0}, {kind, 9, 0, 0}, {kind, LEAST, 0, 0},
                {kind, MOST, 0, 0}});
        }
    }

    private static void noSuchA() {
        for (int kind = 0; kind <= 4; kind++) {
            expectRefused(new int[][] {{kind, 0, -1, 0}, {kind, 0, 9, 0}, {kind, 0, 10, 0}, {kind, 0, LEAST, 0},
                {kind, 0, MOST, 0}});
        }
    }

    private static void noSuchB() {
        for (int kind = 0; kind <= 4; kind++) {
            expectRefused(new int[][] {{kind, 0, 0, -1}, {kind, 0, 0, 9}, {kind, 0, 0, 10}, {kind, 0, 0, LEAST},
                {kind, 0, 0, MOST}});
        }
    }

    /** load: b is 0 */
    private static void bOfALoad() {
        for (int b = 1; b <= 8; b++) {
            expectRefused(new int[][] {{3, 0, 0, b}, {3, 7, 8, b}});
        }
    }

    /** store: d is 0 */
    private static void dOfAStore() {
        for (int d = 1; d <= 8; d++) {
            expectRefused(new int[][] {{4, d, 0, 0}, {4, d, 8, 8}});
        }
        expectRefused(new int[][] {{4, -1, 0, 0}, {4, LEAST, 0, 0}, {4, MOST, 0, 0}});
    }

    private static void refusedCallsChangeNothing() {
        Check.sentence("One operation more: how many there are. (a refused one is none)");
        MoveDesk desk = new MoveDesk(2, 1, 1);
        desk.operation(0, 0, 8, 8, 7);
        int[][] wrong = {{5, 0, 8, 8}, {0, 8, 8, 8}, {0, 0, 9, 8}, {0, 0, 8, 9}, {3, 0, 8, 8}, {4, 1, 8, 8}};
        for (int[] o : wrong) {
            Check.fails(name(o), IllegalArgumentException.class, () -> desk.operation(o[0], o[1], o[2], o[3], 99));
            Check.same("done(0)", desk.done(0), 14);
        }
        Check.same("operation", desk.operation(0, 0, 0, 8, 1), 2);
        Check.same("done(0)", desk.done(0), 15);
    }

    private static void onlyOperationsChange() {
        Check.sentence("One operation more");
        MoveDesk desk = new MoveDesk(2, 1, 1);
        desk.move(0, 0, 1, 2, 3, 4);
        desk.operation(0, 0, 8, 8, 7);
        desk.operation(4, 0, 8, 8, 7);
        Check.same("peek(0)", desk.peek(0), 0);
        Check.same("peek(15)", desk.peek(15), 0);
        Check.same("state(0)", desk.state(0), 0);
        CodeView.expect(desk, 0, 0, 1, 2, 3, 4);
        CodeView.expectCount(desk, 2, 1);
    }
}
