/** Promise 8: compile. */
public final class Promise08CompileTest {
    public static void main(String[] args) {
        noOperations();
        eachKind();
        constants();
        twentyOperations();
        busesForTandO();
        busesBesideALoad();
        behindEachEarlierR();
        behindEachEarlierT();
        notMoreThanTwoRegisters();
        latencyBehindEachEarlierR();
        aBusForR();
        noOtherR();
        behindEachEarlierRToD();
        aheadOfNoReading();
        haltBehindAll();
        lastCycleThatMayBe();
        haltAboveTheLastCycle();
        resultAboveTheLastCycle();
        triggerAboveTheLastCycle();
        theCodeStays();
        theCodeIsTheirsAlone();
        asIfNoneHadBeenCompiled();
        onlyTheCodeChanges();
        Check.end();
    }

    private static void expect(MoveDesk desk, int cycle, int bus, int source, int constant, int destination) {
        CodeView.expect(desk, cycle, bus, 0, source, constant, destination);
    }

    private static void expectHalt(MoveDesk desk, int due) {
        Check.same("compile()", desk.compile(), due);
        expect(desk, due, 0, 11, 0, Ports.HALT);
        CodeView.expectNone(desk, due, 1);
    }

    private static void noOperations() {
        Check.sentence("HALT (no guard, source constant 0) is alone in the first cycle behind all of these.");
        for (int buses = 2; buses <= 4; buses++) {
            MoveDesk desk = new MoveDesk(buses, 1, 1);
            expectHalt(desk, 0);
            CodeView.expectCount(desk, buses, 1);
            Check.same("judge()", desk.judge(), -1);
            Check.same("run(5)", desk.run(5), 1);
            Check.same("state(1)", desk.state(1), 1);
        }
    }

    private static void eachKind() {
        Check.sentence("each operation, in order, becomes moves");
        MoveDesk desk = new MoveDesk(4, 3, 2);
        desk.operation(0, 1, 8, 8, 5);
        desk.operation(1, 2, 8, 1, 6);
        desk.operation(2, 3, 2, 8, 7);
        desk.operation(3, 4, 8, 0, -8);
        desk.operation(4, 0, 4, 8, 9);
        expectHalt(desk, 8);
        expect(desk, 0, 0, 11, 5, 8);
        expect(desk, 0, 1, 11, 5, 11);
        expect(desk, 1, 0, 8, 0, 1);
        expect(desk, 2, 0, 11, 6, 8);
        expect(desk, 2, 1, 1, 0, 12);
        expect(desk, 3, 0, 8, 0, 2);
        expect(desk, 4, 0, 2, 0, 9);
        expect(desk, 4, 1, 11, 7, 13);
        expect(desk, 7, 0, 9, 0, 3);
        expect(desk, 0, 2, 11, -8, 14);
        expect(desk, 2, 2, 10, 0, 4);
        expect(desk, 3, 1, 4, 0, 10);
        expect(desk, 3, 2, 11, 9, 15);
        CodeView.expectCount(desk, 4, 14);
    }

    private static void constants() {
        Check.sentence("(No guards; constant c with source 11, else 0.)");
        for (int c : new int[] {Integer.MIN_VALUE, -1, 0, 64, Integer.MAX_VALUE}) {
            MoveDesk desk = new MoveDesk(2, 1, 1);
            desk.operation(0, 7, 8, 7, c);
            desk.operation(4, 0, 0, 8, c);
            desk.operation(2, 0, 1, 2, c);
            desk.operation(3, 0, 6, 0, c);
            desk.operation(3, 0, 8, 0, c);
            desk.compile();
            expect(desk, 0, 0, 11, c, 8);
            expect(desk, 0, 1, 7, 0, 11);
            expect(desk, 1, 0, 8, 0, 7);
            expect(desk, 2, 0, 0, 0, 10);
            expect(desk, 2, 1, 11, c, 15);
            expect(desk, 3, 0, 1, 0, 9);
            expect(desk, 3, 1, 2, 0, 13);
            expect(desk, 4, 0, 9, 0, 0);
            expect(desk, 4, 1, 6, 0, 14);
            expect(desk, 5, 0, 10, 0, 0);
            expect(desk, 5, 1, 11, c, 14);
            expect(desk, 6, 0, 10, 0, 0);
        }
    }

    private static void twentyOperations() {
        Check.sentence("OPERATIONS, at most 20");
        for (int buses = 2; buses <= 4; buses++) {
            MoveDesk desk = new MoveDesk(buses, 1, 1);
            for (int i = 0; i < 20; i++) {
                desk.operation(0, i % 8, 8, 8, i);
            }
            int halt = buses == 2 ? 40 : 21;
            expectHalt(desk, halt);
            CodeView.expectCount(desk, buses, 61);
            expect(desk, halt - 2, buses == 2 ? 1 : 2, 11, 19, 11);
            expect(desk, halt - 1, 0, 8, 0, 3);
            Check.same("judge()", desk.judge(), -1);
            Check.same("run(1000)", desk.run(1000), halt + 1);
            Check.same("peek(3)", desk.peek(3), 38);
            Check.same("peek(4)", desk.peek(4), 24);
        }
    }

    private static void busesForTandO() {
        Check.sentence("t is the least cycle in which there are buses for these");
        MoveDesk desk = new MoveDesk(2, 1, 1);
        desk.operation(0, 0, 8, 8, 1);
        desk.operation(2, 1, 8, 8, 2);
        desk.operation(3, 2, 8, 0, 3);
        expectHalt(desk, 5);
        expect(desk, 1, 0, 8, 0, 0);
        expect(desk, 1, 1, 11, 3, 14);
        expect(desk, 2, 0, 11, 2, 9);
        expect(desk, 2, 1, 11, 2, 13);
        expect(desk, 3, 0, 9, 0, 1);
        expect(desk, 4, 0, 10, 0, 2);
        MoveDesk three = new MoveDesk(3, 1, 1);
        three.operation(0, 0, 8, 8, 1);
        three.operation(2, 1, 8, 8, 2);
        three.operation(3, 2, 8, 0, 3);
        expectHalt(three, 4);
        expect(three, 0, 2, 11, 3, 14);
        expect(three, 1, 0, 8, 0, 0);
        expect(three, 1, 1, 11, 2, 9);
        expect(three, 1, 2, 11, 2, 13);
        MoveDesk four = new MoveDesk(4, 1, 1);
        four.operation(0, 0, 8, 8, 1);
        four.operation(2, 1, 8, 8, 2);
        four.operation(3, 2, 8, 0, 3);
        expectHalt(four, 4);
        expect(four, 0, 2, 11, 2, 9);
        expect(four, 0, 3, 11, 2, 13);
        expect(four, 1, 0, 8, 0, 0);
        expect(four, 1, 1, 11, 3, 14);
        expect(four, 2, 0, 9, 0, 1);
        expect(four, 3, 0, 10, 0, 2);
    }

    private static void busesBesideALoad() {
        Check.sentence("(load: T alone, a to the trigger)");
        for (int buses = 2; buses <= 4; buses++) {
            MoveDesk desk = new MoveDesk(buses, 1, 1);
            desk.operation(3, 0, 8, 0, 1);
            desk.operation(0, 1, 8, 8, 2);
            desk.compile();
            expect(desk, 0, 0, 11, 1, 14);
            if (buses == 2) {
                CodeView.expectNone(desk, 0, 1);
                expect(desk, 1, 0, 10, 0, 0);
                expect(desk, 2, 0, 11, 2, 8);
                expect(desk, 2, 1, 11, 2, 11);
                expect(desk, 3, 0, 8, 0, 1);
            } else {
                expect(desk, 0, 1, 11, 2, 8);
                expect(desk, 0, 2, 11, 2, 11);
                expect(desk, 1, 0, 10, 0, 0);
                expect(desk, 2, 0, 8, 0, 1);
            }
        }
    }

    private static void behindEachEarlierR() {
        Check.sentence("which is behind each earlier R to a register that it reads");
        int[][] readers = {{2, 5, 1, 8}, {2, 5, 8, 1}, {2, 5, 1, 1}, {3, 5, 1, 0}, {4, 0, 1, 8}, {4, 0, 8, 1},
            {2, 5, 8, 2}, {3, 5, 2, 0}, {4, 0, 8, 8}};
        for (int i = 0; i < readers.length; i++) {
            int[] o = readers[i];
            MoveDesk desk = new MoveDesk(4, 1, 1);
            desk.operation(0, 1, 8, 8, 0);
            desk.operation(o[0], o[1], o[2], o[3], 0);
            // The R is in cycle 1: who reads it begins in 2, who doesn't in 0.
            int t = i < 6 ? 2 : 0;
            int first = i < 6 ? 0 : 2;
            desk.compile();
            Check.same("cycle of reader " + i, desk.moveAt(t, o[0] == 3 ? first : first + 1, 3), 11 + o[0]);
        }
        MoveDesk load = new MoveDesk(4, 1, 1);
        load.operation(0, 0, 8, 8, 0);
        load.operation(3, 5, 8, 0, 9);
        Check.sentence("load: b is 0 (no register)");
        load.compile();
        expect(load, 0, 2, 11, 9, 14);
    }

    private static void behindEachEarlierT() {
        Check.sentence("and behind each earlier T to that unit");
        int[][] pairs = {{0, 0}, {0, 1}, {1, 0}, {2, 2}, {3, 3}, {3, 4}, {4, 3}, {4, 4}};
        for (int[] pair : pairs) {
            MoveDesk desk = new MoveDesk(4, 1, 1);
            desk.operation(pair[0], 0, 8, pair[0] == 3 ? 0 : 8, 5);
            desk.operation(pair[1], 0, 8, pair[1] == 3 ? 0 : 8, 6);
            desk.compile();
            int bus = (pair[0] == 4 ? 0 : 1) + (pair[1] == 3 ? 0 : 1);
            expect(desk, 0, pair[0] == 3 ? 0 : 1, 11, 5, 11 + pair[0]);
            expect(desk, 1, bus, 11, 6, 11 + pair[1]);
        }
        MoveDesk late = new MoveDesk(4, 1, 1);
        late.operation(2, 0, 8, 8, 1);
        late.operation(0, 1, 0, 8, 2);
        late.operation(0, 3, 8, 8, 4);
        late.compile();
        expect(late, 2, 1, 11, 2, 11);
        expect(late, 3, 2, 11, 4, 11);
    }

    private static void notMoreThanTwoRegisters() {
        Check.sentence("with which not more than two different registers are read in it");
        int[][] seconds = {{1, 2, 0}, {2, 1, 0}, {1, 1, 0}, {8, 8, 0}, {8, 2, 0}, {1, 8, 0}, {1, 3, 1}, {3, 2, 1},
            {3, 4, 1}, {3, 8, 1}, {8, 3, 1}, {3, 3, 1}};
        for (int[] second : seconds) {
            MoveDesk desk = new MoveDesk(4, 1, 1);
            desk.operation(0, 0, 1, 2, 0);
            desk.operation(2, 5, second[0], second[1], 0);
            desk.compile();
            Check.same("product of " + second[0] + " and " + second[1],
                    desk.moveAt(second[2], second[2] == 0 ? 3 : 2, 3), Ports.MULTIPLY);
        }
        MoveDesk one = new MoveDesk(4, 1, 1);
        one.operation(0, 0, 1, 1, 0);
        one.operation(2, 5, 2, 2, 0);
        one.compile();
        expect(one, 0, 3, 2, 0, Ports.MULTIPLY);
        MoveDesk load = new MoveDesk(3, 1, 1);
        load.operation(0, 0, 1, 2, 0);
        load.operation(3, 5, 3, 0, 0);
        load.compile();
        expect(load, 1, 1, 3, 0, Ports.LOAD);
    }

    /** A product whose result is read at 5, where so the R of the load to register 5 has to wait. */
    private static MoveDesk withLateLoad(int load) {
        MoveDesk desk = new MoveDesk(4, 4, load);
        desk.operation(2, 0, 1, 1, 0);
        desk.operation(0, 7, 0, 5, 0);
        desk.operation(3, 5, 8, 0, 2);
        return desk;
    }

    private static void latencyBehindEachEarlierR() {
        Check.sentence("and, but for store, t + LATENCY is behind each earlier R of that unit");
        for (int load = 1; load <= 3; load++) {
            MoveDesk desk = withLateLoad(load);
            desk.operation(3, 6, 8, 0, 4);
            expectHalt(desk, 8);
            expect(desk, 5, 2, 10, 0, 5);
            int t = 6 - load;
            expect(desk, t, load == 1 ? 3 : load == 2 ? 1 : 0, 11, 4, 14);
            expect(desk, 6, 0, 8, 0, 7);
            expect(desk, 7, 0, 10, 0, 6);
            MoveDesk store = withLateLoad(load);
            store.operation(4, 0, 8, 8, 4);
            store.compile();
            expect(store, 1, 1, 11, 4, 15);
        }
    }

    private static void aBusForR() {
        Check.sentence("r is the least cycle from t + LATENCY on in which there is a bus");
        MoveDesk desk = new MoveDesk(2, 4, 3);
        desk.operation(3, 0, 8, 0, 1);
        desk.operation(2, 1, 0, 0, 0);
        desk.operation(3, 2, 8, 0, 2);
        // The second load begins at 1; at 4 both buses are the product's.
        expectHalt(desk, 9);
        expect(desk, 0, 0, 11, 1, 14);
        expect(desk, 3, 0, 10, 0, 0);
        expect(desk, 4, 0, 0, 0, 9);
        expect(desk, 4, 1, 0, 0, 13);
        expect(desk, 1, 0, 11, 2, 14);
        expect(desk, 5, 0, 10, 0, 2);
        expect(desk, 8, 0, 9, 0, 1);
        MoveDesk wide = new MoveDesk(3, 4, 3);
        wide.operation(3, 0, 8, 0, 1);
        wide.operation(2, 1, 0, 0, 0);
        wide.operation(3, 2, 8, 0, 2);
        wide.compile();
        expect(wide, 4, 2, 10, 0, 2);
    }

    private static void noOtherR() {
        Check.sentence("in which there is a bus, with no other R");
        MoveDesk desk = new MoveDesk(4, 2, 1);
        desk.operation(2, 0, 8, 8, 0);
        desk.operation(0, 1, 8, 8, 0);
        desk.operation(0, 2, 8, 8, 0);
        expectHalt(desk, 4);
        expect(desk, 1, 0, 8, 0, 1);
        expect(desk, 2, 0, 9, 0, 0);
        expect(desk, 1, 2, 11, 0, 11);
        expect(desk, 3, 0, 8, 0, 2);
    }

    private static void behindEachEarlierRToD() {
        Check.sentence("behind each earlier R to register d");
        MoveDesk desk = new MoveDesk(4, 4, 1);
        desk.operation(2, 0, 1, 1, 0);
        desk.operation(0, 0, 8, 8, 2);
        expectHalt(desk, 6);
        expect(desk, 4, 0, 9, 0, 0);
        expect(desk, 0, 3, 11, 2, 11);
        expect(desk, 5, 0, 8, 0, 0);
        MoveDesk other = new MoveDesk(4, 4, 1);
        other.operation(2, 0, 1, 1, 0);
        other.operation(0, 2, 8, 8, 2);
        expectHalt(other, 5);
        expect(other, 1, 0, 8, 0, 2);
    }

    private static void aheadOfNoReading() {
        Check.sentence("and ahead of no cycle in which an earlier operation reads d");
        for (int d = 0; d < 8; d++) {
            int late = (d + 3) % 8;
            for (int side = 0; side < 2; side++) {
                MoveDesk desk = new MoveDesk(4, 4, 1);
                desk.operation(2, late, late, late, 0);
                desk.operation(4, 0, side == 0 ? late : d, side == 0 ? d : late, 0);
                desk.operation(0, d, 8, 8, 2);
                expectHalt(desk, 6);
                expect(desk, 5, 0, side == 0 ? late : d, 0, 10);
                expect(desk, 5, 1, side == 0 ? d : late, 0, 15);
                // In the very cycle of the reading it may be: sources are read at the beginning.
                expect(desk, 5, 2, 8, 0, d);
                expect(desk, 0, 2, 11, 2, 8);
            }
        }
        MoveDesk own = new MoveDesk(4, 1, 1);
        own.operation(0, 5, 5, 5, 0);
        expectHalt(own, 2);
        expect(own, 1, 0, 8, 0, 5);
        MoveDesk full = new MoveDesk(2, 4, 1);
        full.operation(2, 0, 1, 1, 0);
        full.operation(4, 0, 0, 5, 0);
        full.operation(0, 5, 8, 8, 2);
        expectHalt(full, 7);
        expect(full, 6, 0, 8, 0, 5);
    }

    private static void haltBehindAll() {
        Check.sentence("HALT is alone in the first cycle behind all of these.");
        MoveDesk store = new MoveDesk(4, 4, 3);
        store.operation(4, 0, 8, 8, 1);
        expectHalt(store, 1);
        MoveDesk load = new MoveDesk(4, 4, 3);
        load.operation(3, 0, 8, 0, 1);
        expectHalt(load, 4);
        MoveDesk earlier = new MoveDesk(4, 4, 3);
        earlier.operation(2, 0, 8, 8, 1);
        earlier.operation(0, 1, 8, 8, 1);
        expectHalt(earlier, 5);
        MoveDesk two = new MoveDesk(2, 1, 1);
        two.operation(0, 1, 8, 8, 1);
        expectHalt(two, 2);
    }

    /** Its products follow one another: the R of product n is in cycle 5 n - 1. */
    private static MoveDesk withProducts(int count, int load) {
        MoveDesk desk = new MoveDesk(2, 4, load);
        for (int i = 0; i < count; i++) {
            desk.operation(2, 0, 0, 0, 0);
        }
        return desk;
    }

    private static void lastCycleThatMayBe() {
        Check.sentence("It can't be if a cycle above 63 were needed. (63 may be)");
        MoveDesk result = withProducts(12, 2);
        result.operation(3, 1, 0, 0, 0);
        expectHalt(result, 63);
        expect(result, 62, 0, 10, 0, 1);
        Check.same("judge()", result.judge(), -1);
        Check.same("run(64)", result.run(64), 64);
        Check.same("state(1)", result.state(1), 1);
        Check.same("state(0)", result.state(0), 0);
        MoveDesk trigger = withProducts(12, 1);
        trigger.operation(0, 1, 0, 8, 1);
        trigger.operation(4, 0, 1, 8, 0);
        expectHalt(trigger, 63);
        expect(trigger, 62, 1, 11, 0, 15);
    }

    private static void expectRefused(MoveDesk desk) {
        Check.fails("compile()", UnsupportedOperationException.class, () -> desk.compile());
        CodeView.expectCount(desk, 2, 0);
    }

    private static void haltAboveTheLastCycle() {
        Check.sentence("UnsupportedOperationException: it can't be");
        MoveDesk result = withProducts(12, 3);
        result.operation(3, 1, 0, 0, 0);
        expectRefused(result);
        MoveDesk trigger = withProducts(12, 2);
        trigger.operation(3, 1, 0, 0, 0);
        expectHalt(trigger, 63);
        trigger.clear();
        trigger.operation(4, 0, 1, 8, 0);
        expectRefused(trigger);
    }

    private static void resultAboveTheLastCycle() {
        Check.sentence("UnsupportedOperationException: it can't be");
        expectRefused(withProducts(13, 1));
        expectRefused(withProducts(20, 1));
        MoveDesk waits = withProducts(12, 1);
        waits.operation(0, 1, 0, 0, 0);
        waits.operation(0, 1, 1, 0, 0);
        waits.operation(3, 0, 8, 0, 0);
        waits.operation(0, 0, 8, 8, 0);
        expectRefused(waits);
    }

    private static void triggerAboveTheLastCycle() {
        Check.sentence("UnsupportedOperationException: it can't be");
        MoveDesk desk = withProducts(12, 3);
        desk.operation(3, 1, 0, 0, 0);
        desk.operation(4, 0, 1, 8, 0);
        expectRefused(desk);
        MoveDesk far = withProducts(19, 3);
        far.operation(4, 0, 0, 8, 0);
        expectRefused(far);
        // What behind it would fit doesn't help.
        MoveDesk mixed = withProducts(14, 3);
        mixed.operation(4, 0, 8, 8, 0);
        expectRefused(mixed);
    }

    private static void theCodeStays() {
        Check.sentence("UnsupportedOperationException: it can't be (the code stays).");
        MoveDesk desk = withProducts(13, 1);
        for (int at = 0; at < 128; at++) {
            desk.move(at / 2, at % 2, at % 9, at % 12, at, at % 26);
        }
        Check.fails("compile()", UnsupportedOperationException.class, () -> desk.compile());
        for (int at = 0; at < 128; at++) {
            Check.same("source of " + at, desk.moveAt(at / 2, at % 2, 1), at % 12);
            Check.same("constant of " + at, desk.moveAt(at / 2, at % 2, 2), at);
        }
        Check.same("forget()", desk.forget(), 13);
        MoveDesk few = withProducts(12, 1);
        expectHalt(few, 60);
        few.operation(2, 1, 0, 0, 0);
        Check.fails("compile()", UnsupportedOperationException.class, () -> few.compile());
        expect(few, 60, 0, 11, 0, Ports.HALT);
        CodeView.expectCount(few, 2, 37);
        few.forget();
        expectHalt(few, 0);
        CodeView.expectCount(few, 2, 1);
    }

    private static void theCodeIsTheirsAlone() {
        Check.sentence("the code is theirs alone then; in which cycle HALT is");
        for (int buses = 2; buses <= 3; buses++) {
            MoveDesk desk = new MoveDesk(buses, 1, 1);
            for (int at = 0; at < 64 * buses; at++) {
                desk.move(at / buses, at % buses, 1, 2, 3, 4);
            }
            desk.operation(4, 0, 8, 8, 1);
            expectHalt(desk, 1);
            expect(desk, 0, 0, 11, 1, 10);
            expect(desk, 0, 1, 11, 1, 15);
            CodeView.expectCount(desk, buses, 3);
        }
        MoveDesk again = new MoveDesk(2, 1, 1);
        again.operation(4, 0, 8, 8, 1);
        expectHalt(again, 1);
        expectHalt(again, 1);
        again.operation(4, 0, 8, 8, 2);
        expectHalt(again, 2);
        CodeView.expectCount(again, 2, 5);
    }

    private static void asIfNoneHadBeenCompiled() {
        Check.sentence("The operations are COMPILED: the code is theirs alone then");
        for (int earlier = 0; earlier < 2; earlier++) {
            MoveDesk desk = new MoveDesk(4, 4, 3);
            for (int i = 0; i < 20; i++) {
                // Products that wait for one another are too many; sums and loads are not.
                desk.operation(earlier == 1 ? 2 : i % 2 * 3, i % 8, (i + 7) % 8, 0, 0);
            }
            if (earlier == 0) {
                desk.compile();
            } else {
                Check.fails("compile()", UnsupportedOperationException.class, () -> desk.compile());
            }
            desk.forget();
            desk.operation(0, 5, 0, 1, 0);
            desk.operation(3, 4, 0, 0, 0);
            desk.operation(2, 7, 8, 8, 6);
            expectHalt(desk, 6);
            expect(desk, 0, 0, 0, 0, 8);
            expect(desk, 0, 1, 1, 0, 11);
            expect(desk, 1, 0, 8, 0, 5);
            expect(desk, 0, 2, 0, 0, 14);
            expect(desk, 3, 0, 10, 0, 4);
            expect(desk, 1, 1, 11, 6, 9);
            expect(desk, 1, 2, 11, 6, 13);
            expect(desk, 5, 0, 9, 0, 7);
            CodeView.expectCount(desk, 4, 9);
        }
    }

    private static void onlyTheCodeChanges() {
        Check.sentence("The operations are COMPILED");
        MoveDesk desk = new MoveDesk(3, 4, 1);
        Ports.meet(desk, 0, 1, 6, Ports.MULTIPLY, 7);
        Ports.constant(desk, 0, 2, 3, 5);
        Ports.constant(desk, 1, 0, 40, Ports.JUMP);
        desk.operation(0, 5, 8, 8, 1);
        desk.run(2);
        expectHalt(desk, 2);
        Check.same("state(0)", desk.state(0), 2);
        Check.same("state(7)", desk.state(7), 6);
        Check.same("state(15)", desk.state(15), 2);
        Check.same("peek(5)", desk.peek(5), 3);
        Check.same("forget()", desk.forget(), 1);
        Check.same("run(9) from where it is", desk.run(9), 1);
        Check.same("state(1)", desk.state(1), 1);
    }
}
