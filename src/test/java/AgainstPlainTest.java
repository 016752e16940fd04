import java.util.Random;

/**
 * Long runs of calls, the same ones on both classes; every answer must be the same. No object
 * is called more than 512 times, since answers behind that are free.
 */
public final class AgainstPlainTest {
    private static final int RUNS = 200;
    private static final int SWEEPS = 400;
    private static final int CALLS = 500;
    private static final int BUILDING = 30;

    private final Random random;
    private final int seed;
    private final OrderAxioms x = new OrderAxioms();
    private final PlainOrder y = new PlainOrder();
    private int eventLimit;
    private int calls = 0;

    private AgainstPlainTest(int seed) {
        this.seed = seed;
        this.random = new Random(seed);
        this.eventLimit = 3 + random.nextInt(10);
    }

    public static void main(String[] args) {
        for (int seed = 0; seed < RUNS; seed++) {
            AgainstPlainTest test = new AgainstPlainTest(seed);
            for (int step = 0; step < BUILDING; step++) {
                test.buildProgram(test.random.nextInt(19));
            }
            while (test.calls < CALLS) {
                test.callBoth();
            }
        }
        for (int seed = RUNS; seed < RUNS + SWEEPS; seed++) {
            new AgainstPlainTest(seed).sweepOrder();
            new AgainstPlainTest(-seed).sweepRelations();
        }
        Checks.end("AgainstPlainTest");
    }

    /** A small program of threads that share few places, under a given order, asked at length. */
    private void sweepOrder() {
        int threads = 2 + random.nextInt(3);
        for (int i = 0; i < threads; i++) {
            same("thread()", () -> x.thread(), () -> y.thread());
        }
        for (int i = 0; i < 6 + random.nextInt(4); i++) {
            int thread = random.nextInt(threads);
            int kind = new int[] {0, 0, 0, 0, 1, 1, 1, 2}[random.nextInt(8)];
            int place = random.nextInt(threads);
            int value = i + 1;
            same("event(" + thread + ", " + kind + ", " + place + ", " + value + ")",
                () -> x.event(thread, kind, place, value),
                () -> y.event(thread, kind, place, value));
        }
        int order = 1 + random.nextInt(5);
        same("given(" + order + ")", () -> x.given(order), () -> y.given(order));
        same("run()", () -> x.run(), () -> y.run());
        for (int k = 0; k < Math.min(10, y.count(5)); k++) {
            sweepOutcome(k * Math.max(1, y.count(5) / 10));
        }
        for (int i = 0; i < 20; i++) {
            int e = index(y.count(6));
            same("look(" + e + ")", () -> x.look(e), () -> y.look(e));
            same("ring()", () -> x.ring(), () -> y.ring());
            for (int at = 0; at <= y.ring(); at++) {
                int asked = at;
                same("ringAt(" + at + ")", () -> x.ringAt(asked), () -> y.ringAt(asked));
            }
        }
    }

    /** Few relations, made of few others, each asked for all pairs of a small program. */
    private void sweepRelations() {
        same("thread()", () -> x.thread(), () -> y.thread());
        same("thread()", () -> x.thread(), () -> y.thread());
        for (int i = 0; i < 6; i++) {
            int thread = random.nextInt(2);
            int kind = random.nextInt(2);
            same("event(" + thread + ", " + kind + ", 0, 1)",
                () -> x.event(thread, kind, 0, 1), () -> y.event(thread, kind, 0, 1));
        }
        for (int i = 0; i < 8; i++) {
            int how = random.nextInt(6);
            int a = random.nextInt(y.count(3));
            int b = 5 + random.nextInt(y.count(3) - 5);
            same("make(" + how + ", " + a + ", " + b + ")",
                () -> x.make(how, a, b), () -> y.make(how, a, b));
        }
        same("rule(19)", () -> x.rule(19), () -> y.rule(19));
        same("run()", () -> x.run(), () -> y.run());
        int e = random.nextInt(Math.max(1, y.count(6)));
        same("look(" + e + ")", () -> x.look(e), () -> y.look(e));
        for (int relation = 12; relation < 20; relation++) {
            for (int pair = 0; pair < 36; pair++) {
                int asked = relation;
                int a = pair / 6;
                int b = pair % 6;
                same("related(" + relation + ", " + a + ", " + b + ")",
                    () -> x.related(asked, a, b) ? 1 : 0, () -> y.related(asked, a, b) ? 1 : 0);
            }
        }
    }

    private void sweepOutcome(int k) {
        for (int i = 0; i < y.count(2); i++) {
            int asked = i;
            same("outcome(" + k + ", " + i + ")",
                () -> x.outcome(k, asked), () -> y.outcome(k, asked));
        }
        same("witness(" + k + ", 0)", () -> x.witness(k, 0), () -> y.witness(k, 0));
        same("witness(" + k + ", 1)", () -> x.witness(k, 1), () -> y.witness(k, 1));
    }

    /** Mostly one that is there, now and then one just beside, seldom any number at all. */
    private int index(int count) {
        int dice = random.nextInt(40);
        if (dice == 0) {
            return random.nextBoolean() ? random.nextInt() : random.nextBoolean()
                ? Integer.MIN_VALUE : Integer.MAX_VALUE;
        }
        if (dice <= 2) {
            return dice == 1 ? -1 : count;
        }
        return random.nextInt(Math.max(1, count));
    }

    private int value() {
        int dice = random.nextInt(12);
        return dice == 0 ? random.nextInt() : dice == 1 ? Integer.MIN_VALUE
            : dice == 2 ? Integer.MAX_VALUE : random.nextInt(5) - 1;
    }

    private void callBoth() {
        int dice = random.nextInt(100);
        if (dice < 20) {
            buildProgram(dice);
        } else if (dice < 34) {
            buildModel(dice);
        } else if (dice < 52) {
            askListing(dice);
        } else {
            askSeen(dice);
        }
    }

    private void buildProgram(int dice) {
        if (dice < 3) {
            same("thread()", () -> x.thread(), () -> y.thread());
        } else if (dice < 14 && y.count(1) < eventLimit) {
            int thread = index(y.count(0));
            int kind = random.nextInt(30) == 0 ? index(3)
                : new int[] {0, 0, 0, 1, 1, 2}[random.nextInt(6)];
            int place = random.nextInt(3) == 0 ? index(4) : random.nextInt(2);
            int value = value();
            same("event(" + thread + ", " + kind + ", " + place + ", " + value + ")",
                () -> x.event(thread, kind, place, value),
                () -> y.event(thread, kind, place, value));
        } else if (dice < 19) {
            int b = index(y.count(1));
            int a = random.nextInt(4) == 0 ? index(y.count(1)) : index(Math.max(b, 1));
            same("depends(" + a + ", " + b + ")",
                () -> x.depends(a, b) ? 1 : 0, () -> y.depends(a, b) ? 1 : 0);
        } else if (random.nextInt(8) == 0) {
            eventLimit = 3 + random.nextInt(10);
            same("clear()", () -> x.clear(), () -> y.clear());
        }
    }

    private void buildModel(int dice) {
        if (dice < 27) {
            int how = index(6);
            int a = random.nextBoolean() ? y.count(3) - 1 - random.nextInt(6) : index(y.count(3));
            int b = random.nextBoolean() ? y.count(3) - 1 - random.nextInt(6) : index(y.count(3));
            same("make(" + how + ", " + a + ", " + b + ")",
                () -> x.make(how, a, b), () -> y.make(how, a, b));
        } else if (dice < 30) {
            int relation = random.nextBoolean() ? index(y.count(3))
                : y.count(3) - 1 - random.nextInt(8);
            same("rule(" + relation + ")", () -> x.rule(relation), () -> y.rule(relation));
        } else if (dice < 32) {
            int kind = index(6);
            same("given(" + kind + ")", () -> x.given(kind), () -> y.given(kind));
        } else {
            for (int what = -1; what <= 8; what++) {
                int asked = what;
                same("count(" + what + ")", () -> x.count(asked), () -> y.count(asked));
            }
        }
    }

    private void askListing(int dice) {
        if (dice < 37) {
            same("run()", () -> x.run(), () -> y.run());
        } else if (dice < 46) {
            int k = index(y.count(5));
            int i = index(random.nextBoolean() ? y.count(2) : 4);
            same("outcome(" + k + ", " + i + ")", () -> x.outcome(k, i), () -> y.outcome(k, i));
        } else {
            int k = index(y.count(5));
            int what = index(2);
            same("witness(" + k + ", " + what + ")",
                () -> x.witness(k, what), () -> y.witness(k, what));
        }
    }

    private void askSeen(int dice) {
        if (dice < 60) {
            int e = index(random.nextInt(4) != 0 ? Math.max(1, y.count(6)) : 40);
            same("look(" + e + ")", () -> x.look(e), () -> y.look(e));
        } else if (dice < 67) {
            int i = index(random.nextBoolean() ? y.count(2) : 4);
            same("source(" + i + ")", () -> x.source(i), () -> y.source(i));
        } else if (dice < 75) {
            int place = index(4);
            int i = index(random.nextInt(4) + 1);
            same("order(" + place + ", " + i + ")",
                () -> x.order(place, i), () -> y.order(place, i));
        } else if (dice < 88) {
            int relation = index(y.count(3));
            int a = index(y.count(1));
            int b = index(y.count(1));
            same("related(" + relation + ", " + a + ", " + b + ")",
                () -> x.related(relation, a, b) ? 1 : 0, () -> y.related(relation, a, b) ? 1 : 0);
        } else if (dice < 91) {
            same("ring()", () -> x.ring(), () -> y.ring());
        } else {
            int i = index(Math.max(y.ring(), 1));
            same("ringAt(" + i + ")", () -> x.ringAt(i), () -> y.ringAt(i));
        }
    }

    private void same(String call, Checks.Call tested, Checks.Call plain) {
        calls++;
        Checks.due("seed " + seed + ": " + call, Checks.answerOf(tested), Checks.answerOf(plain));
    }
}
