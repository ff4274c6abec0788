/** Long runs of mixed calls: MoveDesk must answer as PlainDesk does, and compiled operations as done() does. */
public final class PlainTest {
    private static long seed = 20261115;

    public static void main(String[] args) {
        int runs = args.length > 0 ? Integer.parseInt(args[0]) : 1000;
        for (int run = 0; run < runs; run++) {
            mixedCalls(run);
        }
        for (int run = 0; run < runs; run++) {
            compiledCode(run);
        }
        for (int run = 0; run < runs; run++) {
            compiledAsDone(run);
        }
        for (int run = 0; run < runs; run++) {
            judgedCode(run);
        }
        Check.end();
    }

    /** A number 0 .. bound - 1, the same ones in every run of the test. */
    private static int pick(int bound) {
        seed = seed * 6364136223846793005L + 1442695040888963407L;
        return (int) ((seed >>> 33) % bound);
    }

    private static int pick(int[] among) {
        return among[pick(among.length)];
    }

    private static int near(int least, int most) {
        return pick(40) == 0 ? pick(new int[] {least - 1, most + 1, Integer.MIN_VALUE, Integer.MAX_VALUE})
                : least + pick(most - least + 1);
    }

    private static int number() {
        int kind = pick(6);
        if (kind == 0) {
            return pick(new int[] {Integer.MIN_VALUE, Integer.MAX_VALUE, -1, 63, 64, 65537});
        }
        return kind < 5 ? pick(8) : pick(200) - 100;
    }

    private static final class Pair {
        /** What the document promises ends with an object's 512th call. */
        static final int MOST_CALLS = 512;

        final MoveDesk desk;
        final PlainDesk plain;
        final String name;
        int calls = 0;

        Pair(String name, int buses, int multiply, int load) {
            this.name = name + " of MoveDesk(" + buses + ", " + multiply + ", " + load + ")";
            desk = new MoveDesk(buses, multiply, load);
            plain = new PlainDesk(buses, multiply, load);
        }

        interface Call {
            long answer();
        }

        /** Exceptions count as answers far from all others. */
        static long answer(Call call) {
            try {
                return call.answer();
            } catch (IllegalStateException e) {
                return 1L << 40;
            } catch (IllegalArgumentException e) {
                return 2L << 40;
            } catch (IndexOutOfBoundsException e) {
                return 3L << 40;
            } catch (UnsupportedOperationException e) {
                return 4L << 40;
            }
        }

        void same(String call, Call got, Call want) {
            calls++;
            Check.same(name + ": " + call, answer(got), answer(want));
            if (calls > MOST_CALLS) {
                throw new IllegalStateException("a test that asks too much of one object");
            }
        }

        boolean hasCalls(int count) {
            return calls + count <= MOST_CALLS;
        }

        void move(int cycle, int bus, int guard, int source, int constant, int destination) {
            same("move(" + cycle + ", " + bus + ", " + guard + ", " + source + ", " + constant + ", " + destination + ")",
                    () -> {
                        desk.move(cycle, bus, guard, source, constant, destination);
                        return 0;
                    }, () -> {
                        plain.move(cycle, bus, guard, source, constant, destination);
                        return 0;
                    });
        }

        void operation(int kind, int d, int a, int b, int c) {
            same("operation(" + kind + ", " + d + ", " + a + ", " + b + ", " + c + ")",
                    () -> desk.operation(kind, d, a, b, c), () -> plain.operation(kind, d, a, b, c));
        }

        void poke(int k, int v) {
            same("poke(" + k + ", " + v + ")", () -> {
                desk.poke(k, v);
                return 0;
            }, () -> {
                plain.poke(k, v);
                return 0;
            });
        }

        void judge() {
            same("judge()", desk::judge, plain::judge);
            same("fault(0)", () -> desk.fault(0), () -> plain.fault(0));
        }

        void run(int n) {
            same("run(" + n + ")", () -> desk.run(n), () -> plain.run(n));
            same("fault(1)", () -> desk.fault(1), () -> plain.fault(1));
        }

        void reset() {
            same("reset()", () -> {
                desk.reset();
                return 0;
            }, () -> {
                plain.reset();
                return 0;
            });
        }

        void clear() {
            same("clear()", () -> {
                desk.clear();
                return 0;
            }, () -> {
                plain.clear();
                return 0;
            });
        }

        void state(int what) {
            same("state(" + what + ")", () -> desk.state(what), () -> plain.state(what));
        }

        void peek(int k) {
            same("peek(" + k + ")", () -> desk.peek(k), () -> plain.peek(k));
        }

        void moveAt(int cycle, int bus, int what) {
            same("moveAt(" + cycle + ", " + bus + ", " + what + ")", () -> desk.moveAt(cycle, bus, what),
                    () -> plain.moveAt(cycle, bus, what));
        }

        /** 88 calls. */
        void sameState() {
            for (int what = 0; what < 16; what++) {
                state(what);
            }
            for (int k = 0; k < 72; k++) {
                peek(k);
            }
        }

        /** Up to 192 calls, and three more for each move. */
        void sameCode() {
            for (int cycle = 0; cycle < 64; cycle++) {
                for (int bus = 0; bus < plain.buses(); bus++) {
                    for (int what = plain.moveAt(cycle, bus, 0) == -1 ? 3 : 0; what < 4; what++) {
                        moveAt(cycle, bus, what);
                    }
                }
            }
        }
    }

    private static Pair pair(String name) {
        return new Pair(name, 1 + pick(5), pick(6), pick(5));
    }

    private static void move(Pair pair, int cycles) {
        int guard = pick(2) == 0 ? 0 : near(0, 8);
        int source = pick(2) == 0 ? 11 : near(0, 11);
        int destination = pick(2) == 0 ? 8 + pick(8) : near(0, 25);
        int cycle = pick(6) == 0 ? near(0, 63) : pick(cycles);
        pair.move(cycle, near(0, 3), guard, source, pick(3) == 0 ? number() : pick(cycles), destination);
    }

    private static void operation(Pair pair) {
        int kind = near(0, 4);
        boolean right = pick(20) != 0;
        int d = right && kind == 4 ? 0 : near(0, 7);
        int b = right && kind == 3 ? 0 : near(0, 8);
        pair.operation(kind, d, near(0, 8), b, number());
    }

    private static void mixedCalls(int run) {
        Pair pair = pair("mixed run " + run);
        int cycles = 2 + pick(20);
        while (pair.hasCalls(88 + 2)) {
            mixedCall(pair, cycles);
        }
        pair.sameState();
    }

    private static void mixedCall(Pair pair, int cycles) {
        int k = near(0, 71);
        int cycle = near(0, cycles);
        int bus = near(0, 3);
        switch (pick(40)) {
            case 0:
                pair.reset();
                break;
            case 1:
                pair.judge();
                break;
            case 2:
                pair.poke(k, number());
                break;
            case 3:
                pair.same("done(" + k + ")", () -> pair.desk.done(k), () -> pair.plain.done(k));
                break;
            case 4:
                pair.same("compile()", pair.desk::compile, pair.plain::compile);
                break;
            case 5:
                rareCall(pair);
                break;
            case 6:
            case 7:
            case 8:
                pair.same("free(" + cycle + ", " + bus + ")", () -> pair.desk.free(cycle, bus) ? 1 : 0,
                        () -> pair.plain.free(cycle, bus) ? 1 : 0);
                break;
            case 9:
            case 10:
                operation(pair);
                break;
            case 11:
                pair.run(near(0, 1000));
                break;
            case 12:
            case 13:
                pair.state(near(0, 15));
                break;
            case 14:
                pair.peek(k);
                break;
            case 15:
                pair.moveAt(cycle, bus, near(0, 3));
                break;
            default:
                if (pick(2) == 0) {
                    pair.run(pick(4));
                } else {
                    move(pair, cycles);
                }
        }
    }

    private static void rareCall(Pair pair) {
        int which = pick(8);
        if (which == 0) {
            pair.clear();
        } else if (which == 1) {
            pair.same("forget()", pair.desk::forget, pair.plain::forget);
        } else if (which == 2) {
            pair.same("fault(3)", () -> pair.desk.fault(3), () -> pair.plain.fault(3));
        }
    }

    private static void compiledCode(int run) {
        Pair pair = pair("compiled code " + run);
        int count = pick(21);
        for (int i = 0; i < count; i++) {
            operation(pair);
        }
        move(pair, 64);
        pair.same("compile()", pair.desk::compile, pair.plain::compile);
        pair.sameCode();
    }

    private static void compiledAsDone(int run) {
        Pair pair = pair("compiled run " + run);
        for (int k = 0; k < 72; k++) {
            pair.poke(k, number());
        }
        int count = pick(21);
        for (int i = 0; i < count; i++) {
            operation(pair);
        }
        long halt = Pair.answer(pair.desk::compile);
        if (halt > 63) {
            return;
        }
        int[] due = new int[72];
        for (int k = 0; k < 72; k++) {
            due[k] = pair.desk.done(k);
        }
        Check.same(pair.name + ": judge() of compiled", pair.desk.judge(), -1);
        Check.same(pair.name + ": run() of compiled", pair.desk.run(1000), halt + 1);
        for (int k = 0; k < 72; k++) {
            Check.same(pair.name + ": compiled " + k, pair.desk.peek(k), due[k]);
        }
    }

    /** Code that seldom has a FAULT by itself, so that ways go far; half of the JUMPS lie near the end or the beginning. */
    private static void judgedCode(int run) {
        Pair pair = pair("judged run " + run);
        int moves = 5 + pick(40);
        for (int i = 0; i < moves; i++) {
            int cycle = pick(new int[] {pick(64), pick(8), 56 + pick(8)});
            int guard = pick(3) == 0 ? 0 : 1 + pick(8);
            int kind = pick(10);
            int destination = kind < 3 ? 24 : kind < 6 ? 11 + pick(4) : kind == 6 && pick(4) == 0 ? 25 : pick(24);
            int source = pick(destination == 24 ? 30 : 4) == 0 ? pick(11) : 11;
            pair.move(cycle, pick(4), guard, source, pick(new int[] {pick(64), pick(8), 56 + pick(8)}), destination);
            if (i % 4 == 0) {
                pair.judge();
            }
        }
        pair.judge();
    }
}
