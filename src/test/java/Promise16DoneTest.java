/** Promise 16: done. */
public final class Promise16DoneTest {
    private static final int LEAST = Integer.MIN_VALUE;
    private static final int MOST = Integer.MAX_VALUE;

    public static void main(String[] args) {
        oneAfterTheOther();
        noOperations();
        twentyOperations();
        firstAndLastPlaces();
        onACopy();
        asTheyAre();
        ofTheOperationsAlone();
        numbersWrap();
        addressesWrap();
        oneRegisterForAll();
        noSuchPlace();
        Check.end();
    }

    private static void oneAfterTheOther() {
        Check.sentence("DONE: one after the other, as they say.");
        MoveDesk desk = new MoveDesk(2, 1, 1);
        desk.poke(0, 9);
        desk.poke(1, 4);
        desk.poke(8 + 5, 50);
        desk.operation(0, 2, 0, 1, 0);
        desk.operation(1, 3, 0, 1, 0);
        desk.operation(2, 4, 2, 3, 0);
        desk.operation(3, 5, 3, 0, 0);
        desk.operation(4, 0, 8, 4, 7);
        desk.operation(3, 6, 8, 0, 7);
        desk.operation(0, 2, 2, 2, 0);
        int[] due = {9, 4, 26, 5, 65, 50, 65, 0};
        for (int k = 0; k < 8; k++) {
            Check.same("done(" + k + ")", desk.done(k), due[k]);
        }
        Check.same("done(15)", desk.done(15), 65);
        Check.same("done(13)", desk.done(13), 50);
        Check.same("done(71)", desk.done(71), 0);
    }

    private static void noOperations() {
        Check.sentence("The operations are DONE on a copy (there are none)");
        MoveDesk desk = new MoveDesk(2, 1, 1);
        for (int k = 0; k < 72; k++) {
            desk.poke(k, 1000 - 17 * k);
        }
        for (int k = 0; k < 72; k++) {
            Check.same("done(" + k + ")", desk.done(k), 1000 - 17 * k);
        }
    }

    private static void twentyOperations() {
        Check.sentence("The operations are DONE (there are 20)");
        MoveDesk desk = new MoveDesk(2, 1, 1);
        for (int i = 0; i < 19; i++) {
            desk.operation(0, 0, 0, 8, 1 << i);
            Check.same("done(0) of " + (i + 1), desk.done(0), (1 << i + 1) - 1);
        }
        desk.operation(4, 0, 8, 0, 63);
        Check.same("done(71) of the last one", desk.done(71), (1 << 19) - 1);
    }

    private static void firstAndLastPlaces() {
        Check.sentence("what register or word k is there then");
        MoveDesk desk = new MoveDesk(2, 1, 1);
        desk.operation(0, 0, 8, 7, 10);
        desk.operation(0, 7, 8, 0, 7);
        desk.operation(4, 0, 8, 8, 0);
        desk.operation(4, 0, 8, 7, 63);
        desk.operation(0, 6, 6, 8, 5);
        Check.same("done(0)", desk.done(0), 10);
        Check.same("done(7)", desk.done(7), 17);
        Check.same("done(8)", desk.done(8), 0);
        Check.same("done(71)", desk.done(71), 17);
        Check.same("done(6)", desk.done(6), 5);
        Check.same("done(9)", desk.done(9), 0);
        Check.same("done(70)", desk.done(70), 0);
    }

    private static void onACopy() {
        Check.sentence("on a copy of registers and MEMORY");
        MoveDesk desk = new MoveDesk(2, 1, 1);
        desk.operation(0, 0, 0, 8, 3);
        desk.operation(4, 0, 8, 0, 63);
        Check.same("done(71)", desk.done(71), 3);
        Check.same("done(71) again", desk.done(71), 3);
        Check.same("done(0)", desk.done(0), 3);
        Check.same("peek(0)", desk.peek(0), 0);
        Check.same("peek(71)", desk.peek(71), 0);
        for (int what = 0; what < 16; what++) {
            Check.same("state(" + what + ")", desk.state(what), 0);
        }
        Check.same("forget()", desk.forget(), 2);
    }

    private static void asTheyAre() {
        Check.sentence("registers and MEMORY as they are");
        MoveDesk desk = new MoveDesk(2, 1, 1);
        desk.operation(0, 1, 0, 8, 3);
        desk.operation(3, 2, 8, 0, 3);
        desk.poke(0, 10);
        desk.poke(8 + 3, 20);
        Check.same("done(1) behind poke", desk.done(1), 13);
        Check.same("done(2) behind poke", desk.done(2), 20);
        Ports.constant(desk, 0, 0, 40, 0);
        Ports.meet(desk, 1, 2, 3, Ports.STORE, 50);
        desk.run(2);
        Check.same("done(1) behind run", desk.done(1), 43);
        Check.same("done(2) behind run", desk.done(2), 50);
        desk.reset();
        Check.same("done(1) behind reset", desk.done(1), 43);
    }

    private static void ofTheOperationsAlone() {
        Check.sentence("The operations are DONE");
        MoveDesk desk = new MoveDesk(2, 4, 3);
        Ports.constant(desk, 0, 0, 9, 0);
        Ports.constant(desk, 0, 1, 9, 1);
        for (int i = 0; i < 20; i++) {
            desk.operation(2, 0, 0, 8, 2);
        }
        desk.poke(0, 1);
        Check.fails("compile()", UnsupportedOperationException.class, () -> desk.compile());
        Check.same("done(0), though it can't be compiled", desk.done(0), 1 << 20);
        Check.same("run(1)", desk.run(1), 0);
        Check.same("done(0) behind a FAULT", desk.done(0), 1 << 20);
        desk.clear();
        Check.same("done(0) behind clear()", desk.done(0), 1 << 20);
    }

    private static void numbersWrap() {
        Check.sentence("32-bit numbers.");
        expectNumber(0, MOST, 1, LEAST);
        expectNumber(0, LEAST, -1, MOST);
        expectNumber(0, LEAST, LEAST, 0);
        expectNumber(0, MOST, MOST, -2);
        expectNumber(1, LEAST, 1, MOST);
        expectNumber(1, 0, LEAST, LEAST);
        expectNumber(1, MOST, -1, LEAST);
        expectNumber(2, 65536, 65536, 0);
        expectNumber(2, 65537, 65537, 131073);
        expectNumber(2, LEAST, -1, LEAST);
        expectNumber(2, MOST, MOST, 1);
    }

    private static void expectNumber(int kind, int a, int b, int due) {
        MoveDesk desk = new MoveDesk(2, 1, 1);
        desk.poke(3, a);
        desk.poke(4, b);
        desk.operation(kind, 5, 3, 4, 0);
        desk.operation(kind, 6, 8, 4, a);
        desk.operation(kind, 7, 3, 8, b);
        for (int k = 5; k < 8; k++) {
            Check.same("kind " + kind + " of " + a + " and " + b + ": done(" + k + ")", desk.done(k), due);
        }
    }

    private static void addressesWrap() {
        Check.sentence("addresses count modulo 64");
        int[][] given = {{0, 0}, {63, 63}, {64, 0}, {65, 1}, {127, 63}, {128, 0}, {-1, 63}, {-63, 1}, {-64, 0},
            {-65, 63}, {LEAST, 0}, {LEAST + 1, 1}, {MOST, 63}, {MOST - 1, 62}};
        for (int[] pair : given) {
            MoveDesk desk = new MoveDesk(2, 1, 1);
            desk.poke(8 + pair[1], 77);
            desk.poke(2, pair[0]);
            desk.operation(3, 3, 8, 0, pair[0]);
            desk.operation(3, 4, 2, 0, 0);
            desk.operation(0, 5, 8, 7, 55);
            desk.operation(4, 0, 2, 5, 0);
            Check.same("load by constant " + pair[0], desk.done(3), 77);
            Check.same("load by register " + pair[0], desk.done(4), 77);
            Check.same("store by register " + pair[0], desk.done(8 + pair[1]), 55);
            desk.forget();
            desk.operation(4, 0, 8, 2, pair[0]);
            Check.same("store by constant " + pair[0], desk.done(8 + pair[1]), pair[0]);
        }
    }

    private static void oneRegisterForAll() {
        Check.sentence("DONE: one after the other, as they say.");
        MoveDesk desk = new MoveDesk(2, 1, 1);
        desk.poke(7, 5);
        desk.operation(0, 7, 7, 7, 0);
        desk.operation(1, 7, 7, 8, 3);
        desk.operation(2, 7, 7, 7, 0);
        desk.operation(4, 0, 7, 7, 0);
        desk.operation(3, 7, 7, 0, 0);
        Check.same("done(7)", desk.done(7), 49);
        Check.same("done of word 49", desk.done(8 + 49), 49);
        desk.operation(1, 7, 7, 7, 0);
        Check.same("done(7)", desk.done(7), 0);
    }

    private static void noSuchPlace() {
        Check.sentence("IndexOutOfBoundsException: there is none such.");
        MoveDesk desk = new MoveDesk(2, 1, 1);
        for (int round = 0; round < 2; round++) {
            for (int k : new int[] {-1, -8, 72, 73, LEAST, MOST}) {
                Check.fails("done(" + k + ")", IndexOutOfBoundsException.class, () -> desk.done(k));
            }
            desk.operation(4, 0, 8, 8, 71);
        }
        Check.same("done(15)", desk.done(15), 71);
        Check.same("peek(15)", desk.peek(15), 0);
    }
}
