/** Promise 7: forget. */
public final class Promise07ForgetTest {
    public static void main(String[] args) {
        howManyThereWere();
        none();
        full();
        theyAreGone();
        roomForTwentyMore();
        onlyOperationsGo();
        Check.end();
    }

    private static void fill(MoveDesk desk, int count) {
        for (int i = 0; i < count; i++) {
            desk.operation(0, 0, 0, 8, 1);
        }
    }

    private static void howManyThereWere() {
        Check.sentence("All operations go: how many there were.");
        for (int count = 0; count <= 20; count++) {
            MoveDesk desk = new MoveDesk(2, 1, 1);
            fill(desk, count);
            Check.same("forget() of " + count, desk.forget(), count);
            Check.same("forget() again", desk.forget(), 0);
        }
    }

    private static void none() {
        Check.sentence("All operations go: how many there were.");
        MoveDesk desk = new MoveDesk(2, 1, 1);
        Check.same("forget()", desk.forget(), 0);
        Check.same("forget()", desk.forget(), 0);
        Check.same("operation behind it", desk.operation(0, 0, 8, 8, 1), 1);
    }

    private static void full() {
        Check.sentence("All operations go: how many there were.");
        MoveDesk desk = new MoveDesk(2, 1, 1);
        fill(desk, 20);
        Check.fails("operation 21", IllegalStateException.class, () -> fill(desk, 1));
        Check.same("forget()", desk.forget(), 20);
    }

    private static void theyAreGone() {
        Check.sentence("All operations go");
        MoveDesk desk = new MoveDesk(2, 1, 1);
        desk.operation(0, 0, 8, 8, 1);
        desk.operation(4, 0, 8, 8, 63);
        desk.forget();
        Check.same("done(0)", desk.done(0), 0);
        Check.same("done(71)", desk.done(71), 0);
        Check.same("compile()", desk.compile(), 0);
        CodeView.expectCount(desk, 2, 1);
        desk.operation(0, 1, 8, 8, 2);
        Check.same("done(0) of a new one", desk.done(0), 0);
        Check.same("done(1) of a new one", desk.done(1), 4);
    }

    private static void roomForTwentyMore() {
        Check.sentence("All operations go");
        MoveDesk desk = new MoveDesk(2, 1, 1);
        for (int round = 0; round < 3; round++) {
            fill(desk, 20);
            Check.same("done(0)", desk.done(0), 20);
            Check.fails("operation 21", IllegalStateException.class, () -> fill(desk, 1));
            Check.same("forget()", desk.forget(), 20);
        }
    }

    private static void onlyOperationsGo() {
        Check.sentence("All operations go (nothing else)");
        MoveDesk desk = new MoveDesk(2, 1, 1);
        desk.poke(0, 5);
        desk.poke(71, 6);
        desk.operation(0, 1, 0, 8, 2);
        Check.same("compile()", desk.compile(), 2);
        Check.same("run(1)", desk.run(1), 1);
        desk.forget();
        CodeView.expectCount(desk, 2, 4);
        Check.same("state(0)", desk.state(0), 1);
        Check.same("state(12)", desk.state(12), 7);
        Check.same("run(9)", desk.run(9), 2);
        Check.same("peek(1)", desk.peek(1), 7);
        Check.same("peek(0)", desk.peek(0), 5);
        Check.same("peek(71)", desk.peek(71), 6);
    }
}
