/** The examples of README.md, line by line, with the answers that it tells. */
public final class ReadmeTest {
    public static void main(String[] args) {
        operationsCompiled();
        movesByHand();
        Check.end();
    }

    private static void operationsCompiled() {
        MoveDesk desk = new MoveDesk(2, 3, 2);
        desk.operation(0, 0, 8, 8, 5);
        desk.operation(2, 1, 0, 0, 0);
        Check.same("compile()", desk.compile(), 6);
        Check.same("judge()", desk.judge(), MoveDesk.NONE);
        Check.same("done(1)", desk.done(1), 100);
        Check.same("run(1000)", desk.run(1000), 7);
        Check.same("peek(1)", desk.peek(1), 100);
    }

    private static void movesByHand() {
        MoveDesk desk = new MoveDesk(2, 1, 1);
        desk.move(0, 0, 0, 0, 0, 8);
        desk.move(0, 1, 0, 11, 1, 12);
        desk.move(1, 0, 0, 8, 0, 0);
        desk.move(2, 0, 0, 11, 0, 8);
        desk.move(2, 1, 0, 0, 0, 20);
        desk.move(3, 0, 1, 11, 0, 24);
        desk.move(6, 0, 0, 11, 0, 25);
        desk.poke(0, 3);
        Check.same("judge()", desk.judge(), MoveDesk.NONE);
        Check.same("run(1000)", desk.run(1000), 19);
        Check.same("peek(0)", desk.peek(0), 0);
    }
}
