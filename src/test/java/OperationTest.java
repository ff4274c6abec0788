/** Promises 6, 7 and 16: operation, forget, done. */
public final class OperationTest {
    public static void main(String[] args) {
        counts();
        notAsTold();
        asTold();
        doneOneAfterTheOther();
        doneOnACopy();
        doneWithWrap();
        Check.end();
    }

    private static void counts() {
        MoveDesk desk = new MoveDesk(2, 1, 1);
        for (int i = 1; i <= 20; i++) {
            Check.same("operation " + i, desk.operation(0, 0, 0, 8, 1), i);
        }
        Check.fails("operation 21", IllegalStateException.class, () -> desk.operation(0, 0, 0, 8, 1));
        Check.fails("wrong operation 21", IllegalArgumentException.class, () -> desk.operation(5, 0, 0, 8, 1));
        Check.same("done(0)", desk.done(0), 20);
        Check.same("forget()", desk.forget(), 20);
        Check.same("forget() again", desk.forget(), 0);
        Check.same("done(0) of none", desk.done(0), 0);
        Check.same("operation behind forget", desk.operation(0, 0, 8, 8, 4), 1);
        Check.same("done(0) of one", desk.done(0), 8);
    }

    private static void notAsTold() {
        MoveDesk desk = new MoveDesk(2, 1, 1);
        int[][] wrong = {{-1, 0, 0, 0}, {5, 0, 0, 0}, {0, -1, 0, 0}, {0, 8, 0, 0}, {1, 0, -1, 0}, {1, 0, 9, 0},
            {2, 0, 0, -1}, {2, 0, 0, 9}, {3, 8, 0, 0}, {3, 0, 9, 0}, {3, 0, 0, 1}, {3, 0, 0, 8}, {3, 0, 0, -1},
            {4, 1, 0, 0}, {4, -1, 0, 0}, {4, 0, 9, 0}, {4, 0, 0, 9}, {4, 0, -1, 0}, {Integer.MIN_VALUE, 0, 0, 0}};
        for (int[] o : wrong) {
            Check.fails("operation(" + o[0] + ", " + o[1] + ", " + o[2] + ", " + o[3] + ")",
                    IllegalArgumentException.class, () -> desk.operation(o[0], o[1], o[2], o[3], 0));
        }
        Check.same("forget()", desk.forget(), 0);
    }

    private static void asTold() {
        MoveDesk desk = new MoveDesk(2, 1, 1);
        int count = 0;
        int[][] right = {{0, 7, 8, 8}, {1, 0, 7, 0}, {2, 7, 0, 7}, {3, 7, 8, 0}, {3, 0, 7, 0}, {4, 0, 8, 8},
            {4, 0, 7, 7}};
        for (int[] o : right) {
            count++;
            Check.same("operation", desk.operation(o[0], o[1], o[2], o[3], Integer.MIN_VALUE), count);
        }
    }

    private static void doneOneAfterTheOther() {
        MoveDesk desk = new MoveDesk(2, 1, 1);
        desk.poke(0, 9);
        desk.poke(1, 4);
        desk.poke(8 + 5, 50);
        desk.operation(0, 2, 0, 1, 0);
        desk.operation(1, 3, 0, 1, 0);
        desk.operation(2, 4, 2, 3, 0);
        desk.operation(3, 5, 3, 0, 0);
        desk.operation(4, 0, 8, 4, 7);
        desk.operation(3, 6, 8, 0, 7);
        desk.operation(0, 2, 2, 2, 0);
        int[] due = {9, 4, 26, 5, 65, 50, 65, 0};
        for (int k = 0; k < 8; k++) {
            Check.same("done(" + k + ")", desk.done(k), due[k]);
        }
        Check.same("done(15)", desk.done(15), 65);
        Check.same("done(13)", desk.done(13), 50);
        Check.same("done(71)", desk.done(71), 0);
    }

    private static void doneOnACopy() {
        MoveDesk desk = new MoveDesk(2, 1, 1);
        desk.operation(0, 0, 0, 8, 3);
        desk.operation(4, 0, 8, 0, 63);
        Check.same("done(71)", desk.done(71), 3);
        Check.same("done(71) again", desk.done(71), 3);
        Check.same("peek(0)", desk.peek(0), 0);
        Check.same("peek(71)", desk.peek(71), 0);
        Check.same("state(0)", desk.state(0), 0);
        desk.poke(0, 10);
        Check.same("done(71) behind poke", desk.done(71), 13);
        Check.fails("done(-1)", IndexOutOfBoundsException.class, () -> desk.done(-1));
        Check.fails("done(72)", IndexOutOfBoundsException.class, () -> desk.done(72));
        Check.fails("done(least)", IndexOutOfBoundsException.class, () -> desk.done(Integer.MIN_VALUE));
    }

    private static void doneWithWrap() {
        MoveDesk desk = new MoveDesk(2, 1, 1);
        desk.operation(4, 0, 8, 8, -1);
        desk.operation(3, 1, 8, 0, 127);
        desk.operation(0, 2, 8, 8, Integer.MAX_VALUE);
        desk.operation(2, 3, 8, 8, 65537);
        desk.operation(1, 4, 8, 2, Integer.MIN_VALUE);
        desk.operation(4, 0, 8, 8, 64);
        Check.same("word 63", desk.done(71), -1);
        Check.same("loaded at 127", desk.done(1), -1);
        Check.same("sum", desk.done(2), -2);
        Check.same("product", desk.done(3), 65537 * 65537);
        Check.same("difference", desk.done(4), Integer.MIN_VALUE + 2);
        Check.same("word 0", desk.done(8), 64);
    }
}
