/** For each promise of the document: ordinary inputs, the edges that it names, wrong inputs. */
public final class PromisesTest extends Programs {
    public static void main(String[] args) {
        newObject();
        threads();
        events();
        dependences();
        making();
        madeRelations();
        rules();
        givenNumbers();
        givenOrders();
        runs();
        runLimits();
        outcomes();
        witnesses();
        looks();
        executionNumbers();
        sources();
        orders();
        givenRelations();
        relatedStays();
        rings();
        ringsChosenLowest();
        counts();
        clears();
        Checks.end("PromisesTest");
    }

    private static void newObject() {
        OrderAxioms x = new OrderAxioms();
        int[] due = {0, 0, 0, 12, 0, 0, 0, 0};
        for (int what = 0; what < due.length; what++) {
            Checks.due("1: count(" + what + ")", x.count(what), due[what]);
        }
        Checks.due("1: ring", x.ring(), 0);
        Checks.throwing("1: ringAt", INDEX, () -> x.ringAt(0));
        Checks.throwing("1: source", INDEX, () -> x.source(0));
        Checks.throwing("1: order", INDEX, () -> x.order(0, 0));
        Checks.throwing("1: related", INDEX, () -> x.related(0, 0, 0) ? 1 : 0);
        Checks.throwing("1: outcome", INDEX, () -> x.outcome(0, 0));
        Checks.throwing("1: witness", INDEX, () -> x.witness(0, 0));
        Checks.throwing("1: event", ARGUMENT, () -> x.event(0, READ, 0, 0));
        Checks.throwing("1: make", ARGUMENT, () -> x.make(0, 12, 0));
        Checks.due("1: run", x.run(), 1);
        Checks.due("1: two objects share nothing", new OrderAxioms().count(6), 0);
    }

    private static void threads() {
        OrderAxioms x = new OrderAxioms();
        for (int i = 0; i < 4; i++) {
            Checks.due("2: thread", x.thread(), i);
        }
        Checks.throwing("2: a fifth thread", UNSUPPORTED, () -> x.thread());
        Checks.due("2: threads", x.count(0), 4);
        x.clear();
        Checks.due("2: thread after clear", x.thread(), 0);
    }

    private static void events() {
        OrderAxioms x = withThreads(2);
        Checks.due("3: a write", x.event(1, WRITE, 3, 5), 0);
        Checks.due("3: a read", x.event(0, READ, 3, 7), 1);
        Checks.due("3: a fence at no place", x.event(0, FENCE, -7, 9), 2);
        Checks.due("3: reads", x.count(2), 1);
        for (int wild : WILD) {
            Checks.throwing("3: thread " + wild, ARGUMENT, () -> x.event(wild, READ, 0, 0));
            Checks.throwing("3: kind " + wild, ARGUMENT, () -> x.event(0, wild, 0, 0));
            Checks.throwing("3: place " + wild, ARGUMENT, () -> x.event(0, READ, wild, 0));
            Checks.throwing("3: place " + wild, ARGUMENT, () -> x.event(0, WRITE, wild, 0));
        }
        Checks.throwing("3: thread 2", ARGUMENT, () -> x.event(2, FENCE, 0, 0));
        Checks.throwing("3: kind 3", ARGUMENT, () -> x.event(0, 3, 0, 0));
        Checks.throwing("3: place 4", ARGUMENT, () -> x.event(0, WRITE, 4, 0));
        Checks.due("3: wrong events are not counted", x.count(1), 3);
        Checks.due("3: the value of a read does not matter", outcomesOf(x), "[0][5]");
        for (int i = 3; i < 12; i++) {
            Checks.due("3: event " + i, x.event(0, FENCE, 0, 0), i);
        }
        Checks.throwing("3: a thirteenth event", UNSUPPORTED, () -> x.event(0, READ, 0, 0));
        Checks.throwing("3: a wrong thirteenth event", ARGUMENT, () -> x.event(0, READ, 4, 0));
        Checks.due("3: events", x.count(1), 12);
    }

    private static void dependences() {
        OrderAxioms x = withThreads(2);
        x.event(0, READ, 0, 0);
        x.event(1, READ, 0, 0);
        x.event(0, FENCE, 0, 0);
        x.event(0, WRITE, 0, 1);
        x.event(0, READ, 1, 0);
        Checks.due("4: a write on a read", x.depends(0, 3), true);
        Checks.due("4: a read on a read", x.depends(0, 4), true);
        Checks.due("4: once more", x.depends(0, 3), false);
        Checks.throwing("4: itself", ARGUMENT, () -> x.depends(0, 0) ? 1 : 0);
        Checks.throwing("4: on one behind", ARGUMENT, () -> x.depends(4, 3) ? 1 : 0);
        Checks.throwing("4: of another thread", ARGUMENT, () -> x.depends(1, 3) ? 1 : 0);
        Checks.throwing("4: a fence on a read", ARGUMENT, () -> x.depends(0, 2) ? 1 : 0);
        Checks.throwing("4: on a write", ARGUMENT, () -> x.depends(3, 4) ? 1 : 0);
        Checks.throwing("4: on a fence", ARGUMENT, () -> x.depends(2, 4) ? 1 : 0);
        Checks.throwing("4: no event 5", ARGUMENT, () -> x.depends(0, 5) ? 1 : 0);
        for (int wild : WILD) {
            Checks.throwing("4: on " + wild, ARGUMENT, () -> x.depends(wild, 3) ? 1 : 0);
            Checks.throwing("4: of " + wild, ARGUMENT, () -> x.depends(0, wild) ? 1 : 0);
        }
        x.look(0);
        Checks.due("4: DEPENDS", pairsOf(x, 6, 5), "0-3 0-4");
    }

    private static void making() {
        OrderAxioms x = new OrderAxioms();
        Checks.due("5: of two", x.make(0, 0, 11), 12);
        Checks.due("5: of one made", x.make(4, 12, -5), 13);
        Checks.due("5: the second one does not matter", x.make(5, 13, Integer.MAX_VALUE), 14);
        Checks.throwing("5: of itself", ARGUMENT, () -> x.make(0, 15, 0));
        Checks.throwing("5: with itself", ARGUMENT, () -> x.make(3, 0, 15));
        Checks.throwing("5: turn of itself", ARGUMENT, () -> x.make(4, 15, 0));
        Checks.throwing("5: how 6", ARGUMENT, () -> x.make(6, 0, 0));
        for (int wild : WILD) {
            Checks.throwing("5: how " + wild, ARGUMENT, () -> x.make(wild, 0, 0));
            Checks.throwing("5: of " + wild, ARGUMENT, () -> x.make(5, wild, 0));
            Checks.throwing("5: with " + wild, ARGUMENT, () -> x.make(2, 0, wild));
        }
        Checks.due("5: wrong ones are not counted", x.count(3), 15);
        for (int i = 15; i < 40; i++) {
            Checks.due("5: relation " + i, x.make(1, i - 1, i - 2), i);
        }
        Checks.throwing("5: a forty-first", UNSUPPORTED, () -> x.make(0, 39, 0));
        Checks.throwing("5: a wrong forty-first", ARGUMENT, () -> x.make(0, 40, 0));
        Checks.throwing("5: a wrong way for it", ARGUMENT, () -> x.make(6, 0, 0));
        Checks.due("5: relations", x.count(3), 40);
    }

    private static void madeRelations() {
        OrderAxioms x = withThreads(1);
        x.event(0, READ, 0, 0);
        x.event(0, WRITE, 1, 1);
        x.event(0, WRITE, 0, 1);
        x.event(0, READ, 1, 0);
        int union = x.make(0, 8, 11);
        int meet = x.make(1, 0, 5);
        int difference = x.make(2, 0, 5);
        int join = x.make(3, 9, 10);
        int turn = x.make(4, 5, 0);
        int turnedBack = x.make(4, turn, 0);
        int both = x.make(0, 5, x.make(4, 10, 0));
        int closure = x.make(5, both, 0);
        int next = x.make(2, 0, x.make(3, 0, 0));
        int steps = x.make(5, next, 0);
        x.look(0);
        Checks.due("5: one step alone", pairsOf(x, next, 4), "0-1 1-2 2-3");
        Checks.due("5: by more steps", pairsOf(x, steps, 4), "0-1 0-2 0-3 1-2 1-3 2-3");
        Checks.due("5: UNION", pairsOf(x, union, 4), "0-3 1-2");
        Checks.due("5: MEET", pairsOf(x, meet, 4), "0-2 1-3");
        Checks.due("5: DIFFERENCE", pairsOf(x, difference, 4), "0-1 0-3 1-2 2-3");
        Checks.due("5: JOIN", pairsOf(x, join, 4), "0-3");
        Checks.due("5: TURN", pairsOf(x, turn, 4), "2-0 3-1");
        Checks.due("5: TURN of a TURN", pairsOf(x, turnedBack, 4), "0-2 1-3");
        Checks.due("5: a part of CLOSURE", pairsOf(x, both, 4), "0-2 1-3 3-1 3-2");
        Checks.due("5: CLOSURE", pairsOf(x, closure, 4), "0-2 1-1 1-2 1-3 3-1 3-2 3-3");
    }

    private static void rules() {
        OrderAxioms x = storeBuffering();
        Checks.throwing("6: relation 12", ARGUMENT, () -> x.rule(12));
        for (int wild : WILD) {
            Checks.throwing("6: relation " + wild, ARGUMENT, () -> x.rule(wild));
        }
        Checks.due("6: wrong ones are not counted", x.count(4), 0);
        for (int i = 1; i <= 8; i++) {
            Checks.due("6: rule", x.rule(0), i);
        }
        Checks.throwing("6: a ninth rule", UNSUPPORTED, () -> x.rule(0));
        Checks.throwing("6: a wrong ninth rule", ARGUMENT, () -> x.rule(12));
        Checks.due("6: a rule that always holds", x.run(), 4);
        OrderAxioms y = storeBuffering();
        int around = y.make(0, 0, y.make(4, 0, 0));
        Checks.due("6: the first rule", y.rule(0), 1);
        Checks.due("6: a rule that never holds", y.rule(around), 2);
        Checks.due("6: nothing is allowed", y.run(), 0);
        Checks.due("6: executions", y.count(6), 4);
        Checks.due("6: allowed", y.count(7), 0);
        Checks.due("6: the first rule that breaks", y.look(0), 1);
    }

    private static void givenNumbers() {
        OrderAxioms x = new OrderAxioms();
        int[] relations = {12, 15, 15, 20, 21, 19};
        int[] rules = {0, 1, 1, 2, 2, 2};
        for (int kind = 0; kind < 6; kind++) {
            x.rule(0);
            x.make(0, 1, 2);
            Checks.due("7: given(" + kind + ")", x.given(kind), relations[kind]);
            Checks.due("7: relations", x.count(3), relations[kind]);
            Checks.due("7: rules", x.count(4), rules[kind]);
        }
        for (int wild : WILD) {
            Checks.throwing("7: kind " + wild, ARGUMENT, () -> x.given(wild));
        }
        Checks.throwing("7: kind 6", ARGUMENT, () -> x.given(6));
        Checks.due("7: a wrong kind changes nothing", x.count(3), 19);
        Checks.due("7: nor the rules", x.count(4), 2);
        Checks.due("7: the next one made", x.make(0, 18, 0), 19);
    }

    private static void givenOrders() {
        String all = "[0 0][0 1][1 0][1 1]";
        String[] buffering = {all, all, "[0 1][1 0][1 1]", all, all, all};
        String[] fenced = {all, all, "[0 1][1 0][1 1]", "[0 1][1 0][1 1]", "[0 1][1 0][1 1]",
            "[0 1][1 0][1 1]"};
        String[] passing = {all, all, "[0 0][0 1][1 1]", "[0 0][0 1][1 1]", all, all};
        String[] loads = {all, all, "[0 0][0 1][1 0]", "[0 0][0 1][1 0]", "[0 0][0 1][1 0]", all};
        for (int kind = 0; kind < 6; kind++) {
            checkOrder("7: store buffering", storeBuffering(), kind, buffering[kind]);
            checkOrder("7: with fences", storeBufferingFenced(), kind, fenced[kind]);
            checkOrder("7: message passing", messagePassing(), kind, passing[kind]);
            checkOrder("7: load buffering", loadBuffering(false), kind, loads[kind]);
        }
        checkOrder("7: load buffering, depending", loadBuffering(true), 5, "[0 0][0 1][1 0]");
        OrderAxioms x = withThreads(2);
        x.event(0, WRITE, 0, 1);
        x.event(1, READ, 0, 0);
        x.event(1, READ, 0, 0);
        checkOrder("7: two reads without a rule", x, 0, all);
        checkOrder("7: two reads of one place", x, 1, "[0 0][0 1][1 1]");
        givenParts();
    }

    private static void checkOrder(String what, OrderAxioms x, int kind, String want) {
        x.given(kind);
        Checks.due(what + " under " + kind, outcomesOf(x), want);
    }

    /** The relations that given(4) makes, one by one. */
    private static void givenParts() {
        OrderAxioms x = withThreads(2);
        x.event(0, WRITE, 0, 1);
        x.event(0, READ, 0, 0);
        x.event(0, WRITE, 0, 2);
        x.event(0, FENCE, 0, 0);
        x.event(0, WRITE, 1, 1);
        x.event(1, READ, 1, 0);
        x.given(4);
        // Reads 1 and 5 read from 0 and 4; the order of place 0 is 0, 2.
        x.look(6);
        Checks.due("7: sources", x.source(0) + " " + x.source(1), "0 4");
        Checks.due("7: 12", pairsOf(x, 12, 6), "0-1 0-2 1-2 4-5");
        Checks.due("7: 13", pairsOf(x, 13, 6), "0-1 0-2 1-2 4-5");
        Checks.due("7: 14", pairsOf(x, 14, 6), "0-1 0-2 1-2 4-5");
        Checks.due("7: 15", pairsOf(x, 15, 6), "0-2 0-3 0-4 1-2 1-3 1-4 2-3 2-4 3-4");
        Checks.due("7: 16", pairsOf(x, 16, 6), "0-3 1-2 1-3 1-4 2-3 3-4");
        Checks.due("7: 17", pairsOf(x, 17, 6), "0-3 0-4 1-2 1-3 1-4 2-3 2-4 3-4");
        Checks.due("7: 18", pairsOf(x, 18, 6), "0-3 0-4 1-2 1-3 1-4 2-3 2-4 3-4 4-5");
        Checks.due("7: 19", pairsOf(x, 19, 6), "0-2 0-3 0-4 1-2 1-3 1-4 2-3 2-4 3-4 4-5");
        Checks.due("7: 20", pairsOf(x, 20, 6), "0-2 0-3 0-4 1-2 1-3 1-4 2-3 2-4 3-4 4-5");
    }

    private static void runs() {
        OrderAxioms x = new OrderAxioms();
        Checks.due("8: the empty program", x.run(), 1);
        Checks.due("8: its executions", x.count(6), 1);
        Checks.due("8: these are allowed", x.count(7), 1);
        OrderAxioms y = storeBuffering();
        Checks.due("8: no rules", y.run(), 4);
        y.given(2);
        Checks.due("8: one order", y.run(), 3);
        Checks.due("8: the same again", y.run(), 3);
        Checks.due("8: allowed", y.count(7), 3);
        OrderAxioms z = withThreads(1);
        z.event(0, READ, 0, 0);
        z.event(0, WRITE, 0, 0);
        z.event(0, WRITE, 0, 0);
        Checks.due("8: the beginning and writes of 0 are one outcome", z.run(), 1);
        Checks.due("8: of all executions", z.count(7), 6);
    }

    private static void runLimits() {
        OrderAxioms x = withThreads(1);
        // 6! * 7 = 5040, and without the read 720.
        for (int i = 0; i < 6; i++) {
            x.event(0, WRITE, 2, i);
        }
        Checks.due("8: six writes", x.run(), 1);
        Checks.due("8: their orders", x.count(6), 720);
        x.event(0, READ, 2, 0);
        Checks.throwing("8: 5040 executions", UNSUPPORTED, () -> x.run());
        Checks.due("8: what was listed stays", x.count(6), 720);
        Checks.due("8: outcomes stay", x.count(5), 1);
        Checks.due("8: witnesses stay", x.witness(0, 0), 720);
        OrderAxioms y = withThreads(1);
        // 2 * 3^5 * 2^2 = 1944; with 2^3 it is 3888, with 3^6 * 2^2 above 5000.
        y.event(0, WRITE, 0, 1);
        y.event(0, WRITE, 0, 2);
        y.event(0, WRITE, 1, 1);
        for (int i = 0; i < 8; i++) {
            y.event(0, READ, i < 5 ? 0 : 1, 0);
        }
        Checks.due("8: 3888 executions", y.run(), 1944);
        Checks.due("8: listed", y.count(6), 3888);
        Checks.due("8: the last outcome", y.outcome(1943, 7), 1);
        Checks.due("8: its first witness", y.witness(1943, 1), 3886);
        OrderAxioms z = withThreads(1);
        // The largest numbers that twelve events can give must not wrap round.
        for (int i = 0; i < 12; i++) {
            z.event(0, WRITE, 0, i);
        }
        Checks.throwing("8: twelve writes", UNSUPPORTED, () -> z.run());
        z.clear();
        z.thread();
        z.event(0, WRITE, 3, Integer.MIN_VALUE);
        for (int i = 0; i < 11; i++) {
            z.event(0, READ, 3, 0);
        }
        Checks.due("8: eleven reads", z.run(), 2048);
        Checks.due("8: the least outcome", z.outcome(0, 10), Integer.MIN_VALUE);
        Checks.due("8: its witness", z.witness(0, 1), 2047);
        checkNearLimit();
    }

    /** No program has from 4801 to 5000 executions: 4! * 5^2 * 2^3 = 4800, 6! * 7 = 5040. */
    private static void checkNearLimit() {
        OrderAxioms x = withThreads(1);
        for (int i = 0; i < 4; i++) {
            x.event(0, WRITE, 0, -i);
        }
        x.event(0, WRITE, 1, 1);
        for (int i = 0; i < 5; i++) {
            x.event(0, READ, i < 2 ? 0 : 1, 0);
        }
        Checks.due("8: 4800 executions", x.run(), 4 * 4 * 8);
        Checks.due("8: these are listed", x.count(6), 4800);
        Checks.due("8: these are allowed", x.count(7), 4800);
        Checks.due("8: 0 is read from two sources", x.witness(4 * 4 * 8 - 1, 0), 2 * 2 * 24);
        Checks.due("11: the last one", x.look(4799), -1);
        Checks.throwing("11: one more", INDEX, () -> x.look(4800));
        x.event(0, READ, 1, 0);
        Checks.throwing("8: 9600 executions", UNSUPPORTED, () -> x.run());
    }

    private static void outcomes() {
        OrderAxioms x = withThreads(2);
        x.event(0, WRITE, 0, Integer.MAX_VALUE);
        x.event(0, WRITE, 0, -3);
        x.event(0, WRITE, 0, Integer.MIN_VALUE);
        x.event(1, READ, 0, 0);
        x.event(1, READ, 1, 0);
        Checks.due("9: as numbers, not as they come", outcomesOf(x),
            "[-2147483648 0][-3 0][0 0][2147483647 0]");
        Checks.throwing("9: outcome 4", INDEX, () -> x.outcome(4, 0));
        Checks.throwing("9: read 2", INDEX, () -> x.outcome(0, 2));
        for (int wild : WILD) {
            Checks.throwing("9: outcome " + wild, INDEX, () -> x.outcome(wild, 0));
            Checks.throwing("9: read " + wild, INDEX, () -> x.outcome(0, wild));
        }
        x.event(1, READ, 0, 0);
        Checks.throwing("9: a read that came later", INDEX, () -> x.outcome(0, 2));
        Checks.due("9: the latest run stays", x.outcome(1, 0), -3);
        OrderAxioms y = messagePassing();
        Checks.due("9: the first value differs first", outcomesOf(y), "[0 0][0 1][1 0][1 1]");
        OrderAxioms z = new OrderAxioms();
        z.run();
        Checks.throwing("9: an outcome without reads", INDEX, () -> z.outcome(0, 0));
    }

    private static void witnesses() {
        OrderAxioms x = withThreads(1);
        x.event(0, WRITE, 0, 2);
        x.event(0, WRITE, 0, 1);
        x.event(0, WRITE, 0, 2);
        x.event(0, READ, 0, 0);
        x.run();
        int[] many = {6, 6, 12};
        int[] first = {0, 12, 6};
        for (int k = 0; k < 3; k++) {
            Checks.due("10: how many of " + k, x.witness(k, 0), many[k]);
            Checks.due("10: the first of " + k, x.witness(k, 1), first[k]);
        }
        Checks.throwing("10: outcome 3", INDEX, () -> x.witness(3, 0));
        Checks.throwing("10: what 2", INDEX, () -> x.witness(0, 2));
        for (int wild : WILD) {
            Checks.throwing("10: outcome " + wild, INDEX, () -> x.witness(wild, 1));
            Checks.throwing("10: what " + wild, INDEX, () -> x.witness(0, wild));
        }
        x.given(1);
        Checks.due("10: the read reads the last write", outcomesOf(x), "[2]");
        Checks.due("10: in order alone", x.witness(0, 0), 1);
        Checks.due("10: of all executions", x.witness(0, 1), 18);
        Checks.throwing("10: the outcomes before are gone", INDEX, () -> x.witness(1, 0));
    }

    private static void looks() {
        OrderAxioms x = storeBuffering();
        Checks.due("11: no rules", x.look(3), -1);
        x.given(2);
        Checks.due("11: a broken rule", x.look(0), 0);
        Checks.due("11: none", x.look(1), -1);
        Checks.throwing("11: execution 4", INDEX, () -> x.look(4));
        for (int wild : WILD) {
            Checks.throwing("11: execution " + wild, INDEX, () -> x.look(wild));
        }
        x.given(3);
        int back = x.make(4, 0, 0);
        x.rule(x.make(0, 0, back));
        x.rule(x.make(3, 0, back));
        Checks.due("11: the first one broken", x.look(0), 2);
        Checks.due("11: looking lists nothing", x.count(6), 0);
        OrderAxioms y = withThreads(1);
        for (int i = 0; i < 7; i++) {
            y.event(0, WRITE, 0, 1);
        }
        Checks.throwing("11: 5040 executions", UNSUPPORTED, () -> y.look(0));
        Checks.throwing("11: this is told first", UNSUPPORTED, () -> y.look(-1));
        Checks.due("11: look after a failed one", y.ring(), 0);
    }

    private static void executionNumbers() {
        OrderAxioms x = withThreads(2);
        x.event(0, READ, 1, 0);
        x.event(0, WRITE, 3, 1);
        x.event(1, WRITE, 1, 1);
        x.event(1, WRITE, 3, 2);
        x.event(1, READ, 3, 0);
        x.event(0, WRITE, 1, 2);
        // Digits: read 0 (3), read 4 (3), the order of 1 (2), the order of 3 (2).
        int number = 0;
        for (int first : new int[] {-1, 2, 5}) {
            for (int second : new int[] {-1, 1, 3}) {
                for (int low = 2; low <= 5; low += 3) {
                    for (int high = 1; high <= 3; high += 2) {
                        x.look(number);
                        Checks.due("11: digits of " + number, x.source(0) + " " + x.source(1)
                            + " " + x.order(1, 0) + " " + x.order(1, 1)
                            + " " + x.order(3, 0) + " " + x.order(3, 1),
                            first + " " + second + " " + low + " " + (7 - low)
                            + " " + high + " " + (4 - high));
                        number++;
                    }
                }
            }
        }
        Checks.throwing("11: no more digits", INDEX, () -> x.look(36));
    }

    private static void sources() {
        OrderAxioms x = messagePassing();
        x.look(2);
        Checks.due("12: a write", x.source(0), 1);
        Checks.due("12: the beginning", x.source(1), -1);
        Checks.throwing("12: read 2", INDEX, () -> x.source(2));
        for (int wild : WILD) {
            Checks.throwing("12: read " + wild, INDEX, () -> x.source(wild));
        }
        x.event(0, READ, 0, 0);
        Checks.throwing("12: a read that came later", INDEX, () -> x.source(2));
        x.run();
        Checks.due("12: a run does not look", x.source(0), 1);
        Checks.throwing("12: a wrong look", INDEX, () -> x.look(8));
        Checks.due("12: it stays", x.source(0), 1);
        OrderAxioms y = withThreads(1);
        y.event(0, READ, 0, 0);
        y.event(0, WRITE, 0, 1);
        y.look(1);
        Checks.due("12: a write behind it in its thread", y.source(0), 1);
    }

    private static void orders() {
        OrderAxioms x = withThreads(1);
        for (int i = 0; i < 4; i++) {
            x.event(0, WRITE, i == 1 ? 1 : 3, 1);
        }
        int[][] rows = {{0, 2, 3}, {0, 3, 2}, {2, 0, 3}, {2, 3, 0}, {3, 0, 2}, {3, 2, 0}};
        for (int e = 0; e < rows.length; e++) {
            x.look(e);
            for (int i = 0; i < 3; i++) {
                Checks.due("13: write " + i + " of " + e, x.order(3, i), rows[e][i]);
            }
        }
        Checks.due("13: another place", x.order(1, 0), 1);
        Checks.throwing("13: write 3", INDEX, () -> x.order(3, 3));
        Checks.throwing("13: write 1 of one", INDEX, () -> x.order(1, 1));
        Checks.throwing("13: no writes", INDEX, () -> x.order(0, 0));
        Checks.throwing("13: place 4", INDEX, () -> x.order(4, 0));
        for (int wild : WILD) {
            Checks.throwing("13: place " + wild, INDEX, () -> x.order(wild, 0));
            Checks.throwing("13: write " + wild, INDEX, () -> x.order(3, wild));
        }
        x.event(0, WRITE, 0, 1);
        x.run();
        Checks.throwing("13: a write that came later", INDEX, () -> x.order(0, 0));
        Checks.due("13: it stays", x.order(3, 0), 3);
    }

    private static OrderAxioms eightEvents() {
        OrderAxioms x = withThreads(2);
        x.event(0, WRITE, 0, 1);
        x.event(0, READ, 0, 0);
        x.event(0, FENCE, 0, 0);
        x.event(1, READ, 0, 0);
        x.event(0, FENCE, 0, 0);
        x.event(1, WRITE, 0, 2);
        x.event(0, READ, 1, 0);
        x.event(0, WRITE, 0, 3);
        x.depends(1, 6);
        x.depends(1, 7);
        return x;
    }

    private static void givenRelations() {
        String program = "0-1 0-2 0-4 0-6 0-7 1-2 1-4 1-6 1-7 2-4 2-6 2-7 3-5 4-6 4-7 6-7";
        String[] due = {program, "0-1 7-3", "0-7 5-0 5-7", "1-7", "7-3", "0-1 0-7 1-7 3-5",
            "1-6 1-7", "0-6 0-7 1-6 1-7", "1-6", "1-7 3-5 6-7", "0-1 0-6", "0-7"};
        for (int relation = 0; relation < due.length; relation++) {
            OrderAxioms x = eightEvents();
            // Read 1 reads 0, read 3 reads 7, read 6 the beginning; the order is 5, 0, 7.
            x.look(6 * (4 + 3) + 2);
            Checks.due("14: looked at", sourcesOf(x, 3) + " / " + orderOf(x, 0, 3),
                "0 7 -1 / 5 0 7");
            Checks.due("14: given " + relation, pairsOf(x, relation, 8), due[relation]);
        }
        OrderAxioms x = eightEvents();
        x.look(0);
        Checks.due("14: BACK of the beginning", pairsOf(x, 3, 8), "1-0 1-5 1-7 3-0 3-5 3-7");
        Checks.due("14: FROM the beginning", pairsOf(x, 1, 8), "");
        OrderAxioms y = withThreads(2);
        y.event(0, READ, 0, 0);
        y.event(1, READ, 0, 0);
        y.event(0, READ, 0, 0);
        y.event(1, WRITE, 0, 0);
        y.look(7);
        Checks.due("14: FROM one write", pairsOf(y, 1, 4), "3-0 3-1 3-2");
        Checks.due("14: OUTER of one write", pairsOf(y, 4, 4), "3-0 3-2");
    }

    private static void relatedStays() {
        OrderAxioms x = messagePassing();
        x.given(2);
        x.look(2);
        Checks.due("14: a made relation", x.related(14, 3, 0), true);
        Checks.throwing("14: relation 15", INDEX, () -> x.related(15, 0, 0) ? 1 : 0);
        Checks.throwing("14: event 4", INDEX, () -> x.related(0, 4, 0) ? 1 : 0);
        Checks.throwing("14: event 4 behind", INDEX, () -> x.related(0, 0, 4) ? 1 : 0);
        for (int wild : WILD) {
            Checks.throwing("14: relation " + wild, INDEX, () -> x.related(wild, 0, 0) ? 1 : 0);
            Checks.throwing("14: event " + wild, INDEX, () -> x.related(0, wild, 0) ? 1 : 0);
            Checks.throwing("14: event " + wild, INDEX, () -> x.related(0, 0, wild) ? 1 : 0);
        }
        x.make(0, 0, 1);
        Checks.throwing("14: one made later", INDEX, () -> x.related(15, 0, 1) ? 1 : 0);
        x.event(0, WRITE, 0, 1);
        Checks.throwing("14: an event that came later", INDEX, () -> x.related(0, 0, 4) ? 1 : 0);
        x.given(0);
        x.run();
        Checks.due("14: relations that are gone were there", x.related(14, 3, 0), true);
        x.clear();
        Checks.due("14: events that are gone were there", x.related(0, 0, 1), true);
        Checks.due("14: no event is with itself", x.related(0, 0, 0), false);
    }

    private static void rings() {
        OrderAxioms x = storeBuffering();
        x.given(2);
        x.look(0);
        Checks.due("15: a ring of four", x.ring(), 4);
        Checks.due("16: its events", ringOf(x), "0 1 2 3");
        Checks.throwing("16: event 4", INDEX, () -> x.ringAt(4));
        for (int wild : WILD) {
            Checks.throwing("16: event " + wild, INDEX, () -> x.ringAt(wild));
        }
        Checks.throwing("15: a wrong look", INDEX, () -> x.look(4));
        x.run();
        x.clear();
        Checks.due("15: it stays", ringOf(x), "0 1 2 3");
        x.look(0);
        Checks.due("15: none", x.ring(), 0);
        Checks.throwing("16: none", INDEX, () -> x.ringAt(0));
        shortRings();
        longestRing();
    }

    private static void shortRings() {
        OrderAxioms x = withThreads(1);
        for (int i = 0; i < 12; i++) {
            x.event(0, FENCE, 0, 0);
        }
        int back = x.make(4, 0, 0);
        x.rule(x.make(3, back, 0));
        Checks.due("15: broken by one alone", x.look(0), 0);
        Checks.due("15: one alone", x.ring(), 1);
        Checks.due("16: event 0 has none before it", ringOf(x), "1");
        x.given(0);
        x.rule(x.make(0, x.make(4, 0, 0), 0));
        x.look(0);
        Checks.due("15: two", x.ring(), 2);
        Checks.due("16: the lowest two", ringOf(x), "0 1");
    }

    /** From each event to the next one, and from the last to the first. */
    private static void longestRing() {
        OrderAxioms x = withThreads(1);
        for (int i = 0; i < 12; i++) {
            x.event(0, i == 0 ? READ : i == 11 ? WRITE : FENCE, 0, 1);
        }
        int next = x.make(2, 0, x.make(3, 0, 0));
        int round = x.make(0, next, 1);
        x.rule(round);
        Checks.due("15: the beginning", x.look(0), -1);
        Checks.due("15: the write", x.look(1), 0);
        Checks.due("15: twelve", x.ring(), 12);
        Checks.due("16: twelve", ringOf(x), "0 1 2 3 4 5 6 7 8 9 10 11");
        Checks.throwing("16: event 12", INDEX, () -> x.ringAt(12));
    }

    private static void ringsChosenLowest() {
        OrderAxioms x = withThreads(3);
        x.event(0, READ, 0, 0);
        x.event(0, WRITE, 1, 1);
        x.event(1, READ, 1, 0);
        x.event(1, WRITE, 0, 1);
        x.event(2, READ, 1, 0);
        x.event(2, WRITE, 0, 2);
        x.given(2);
        // All reads read writes: 0 from 5, 2 and 4 from 1; the order of place 0 is 3, 5.
        x.look(2 * (2 * 4 + 2 + 1));
        Checks.due("16: sources", x.source(0) + " " + x.source(1) + " " + x.source(2), "5 1 1");
        Checks.due("15: the shortest", x.ring(), 4);
        Checks.due("16: not by 2, which needs five", ringOf(x), "0 1 4 5");
        // Read 0 reads 3 and the order of place 0 is 5, 3: then 2 comes first.
        x.look(2 * (4 + 2 + 1) + 1);
        Checks.due("16: sources", x.source(0) + " " + x.source(1) + " " + x.source(2), "3 1 1");
        Checks.due("16: the lowest next event", ringOf(x), "0 1 2 3");
        OrderAxioms y = withThreads(2);
        y.event(0, READ, 0, 0);
        y.event(0, WRITE, 1, 1);
        y.event(1, READ, 1, 0);
        y.event(1, WRITE, 0, 1);
        y.event(1, READ, 2, 0);
        y.event(1, WRITE, 2, 1);
        y.given(2);
        y.look(7);
        Checks.due("16: a short ring of high events", ringOf(y), "4 5");
    }

    private static void counts() {
        OrderAxioms x = messagePassing();
        x.event(0, FENCE, 0, 0);
        x.given(3);
        x.rule(0);
        x.run();
        x.thread();
        int[] due = {3, 5, 2, 20, 3, 3, 4, 3};
        for (int what = 0; what < due.length; what++) {
            Checks.due("17: count(" + what + ")", x.count(what), due[what]);
        }
        Checks.due("17: count(8)", x.count(8), -1);
        for (int wild : WILD) {
            Checks.due("17: count(" + wild + ")", x.count(wild), -1);
        }
    }

    private static void clears() {
        OrderAxioms x = storeBufferingFenced();
        x.given(3);
        x.run();
        x.look(0);
        int ring = x.ring();
        Checks.due("18: clear", x.clear(), 6);
        Checks.due("18: clear again", x.clear(), 0);
        int[] due = {0, 0, 0, 20, 2, 3, 4, 3};
        for (int what = 0; what < due.length; what++) {
            Checks.due("18: count(" + what + ")", x.count(what), due[what]);
        }
        Checks.due("18: outcomes stay", x.outcome(2, 1), 1);
        Checks.due("18: witnesses stay", x.witness(2, 1), 3);
        Checks.due("18: sources stay", x.source(1), -1);
        Checks.due("18: orders stay", x.order(1, 0), 3);
        Checks.due("18: the ring stays", ring > 0 && x.ring() == ring, true);
        Checks.throwing("18: threads are gone", ARGUMENT, () -> x.event(0, READ, 0, 0));
        x.thread();
        x.event(0, READ, 0, 0);
        x.event(0, WRITE, 1, 1);
        Checks.due("18: dependences are gone", x.depends(0, 1), true);
        x.clear();
        x.thread();
        x.event(0, READ, 0, 0);
        x.event(0, WRITE, 1, 1);
        x.look(0);
        Checks.due("18: so is the one told last", x.related(6, 0, 1), false);
        Checks.due("18: writes before are gone", x.run(), 1);
    }
}
