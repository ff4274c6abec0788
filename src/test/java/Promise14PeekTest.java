/** Promise 14: peek. */
public final class Promise14PeekTest {
    private static final int LEAST = Integer.MIN_VALUE;
    private static final int MOST = Integer.MAX_VALUE;

    public static void main(String[] args) {
        firstAndLastRegister();
        firstAndLastWord();
        whatMovesLeft();
        askingChangesNothing();
        noSuchPlace();
        Check.end();
    }

    private static void firstAndLastRegister() {
        Check.sentence("Register or word k.");
        for (int register = 0; register < 8; register++) {
            MoveDesk desk = new MoveDesk(2, 1, 1);
            Ports.constant(desk, 0, 0, 40 + register, register);
            desk.run(1);
            for (int k = 0; k < 72; k++) {
                Check.same("peek(" + k + ")", desk.peek(k), k == register ? 40 + register : 0);
            }
        }
    }

    private static void firstAndLastWord() {
        Check.sentence("Register or word k.");
        for (int word : new int[] {0, 1, 62, 63}) {
            MoveDesk desk = new MoveDesk(2, 1, 1);
            Ports.meet(desk, 0, 2, word, Ports.STORE, 90 + word);
            desk.run(1);
            for (int k = 0; k < 72; k++) {
                Check.same("peek(" + k + ")", desk.peek(k), k == 8 + word ? 90 + word : 0);
            }
        }
    }

    private static void whatMovesLeft() {
        Check.sentence("Register or word k. (32-bit numbers)");
        MoveDesk desk = new MoveDesk(2, 1, 1);
        int[] numbers = {LEAST, -1, 0, MOST};
        for (int i = 0; i < 4; i++) {
            Ports.constant(desk, i, 0, numbers[i], 7);
            desk.run(1);
            Check.same("peek(7)", desk.peek(7), numbers[i]);
        }
    }

    private static void askingChangesNothing() {
        Check.sentence("Register or word k.");
        MoveDesk desk = new MoveDesk(2, 1, 1);
        desk.poke(0, 3);
        Check.same("peek(0)", desk.peek(0), 3);
        Check.same("peek(0) again", desk.peek(0), 3);
        Check.fails("peek(72)", IndexOutOfBoundsException.class, () -> desk.peek(72));
        Check.same("peek(0) behind a refused one", desk.peek(0), 3);
        Check.same("state(0)", desk.state(0), 0);
    }

    private static void noSuchPlace() {
        Check.sentence("IndexOutOfBoundsException: there is none such.");
        MoveDesk desk = new MoveDesk(2, 1, 1);
        for (int k : new int[] {-1, -8, 72, 73, 80, LEAST, MOST}) {
            Check.fails("peek(" + k + ")", IndexOutOfBoundsException.class, () -> desk.peek(k));
        }
    }
}
