/** The document's numbers of sources, destinations and guards, for tests that say what they move. */
final class Ports {
    static final int ALWAYS = 0;
    static final int RESULT = 8;
    static final int CONSTANT = 11;
    static final int OPERAND = 8;
    static final int ADD = 11;
    static final int SUBTRACT = 12;
    static final int MULTIPLY = 13;
    static final int LOAD = 14;
    static final int STORE = 15;
    static final int EQUAL = 16;
    static final int LESS = 20;
    static final int JUMP = 24;
    static final int HALT = 25;

    /** By units, a trigger that brings a result. */
    static final int[] BEGIN = {ADD, MULTIPLY, LOAD};

    private Ports() {
    }

    static int ifOne(int guard) {
        return 1 + guard;
    }

    static int ifZero(int guard) {
        return 5 + guard;
    }

    static void constant(MoveDesk desk, int cycle, int bus, int value, int destination) {
        desk.move(cycle, bus, ALWAYS, CONSTANT, value, destination);
    }

    static void port(MoveDesk desk, int cycle, int bus, int source, int destination) {
        desk.move(cycle, bus, ALWAYS, source, 0, destination);
    }

    /** Two numbers meet in a unit, in one cycle: its operand on bus 0, its trigger on bus 1. */
    static void meet(MoveDesk desk, int cycle, int unit, int operand, int trigger, int value) {
        constant(desk, cycle, 0, operand, OPERAND + unit);
        constant(desk, cycle, 1, value, trigger);
    }
}
