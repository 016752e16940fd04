/**
 * The edges of relations, rules and given orders: promises 5 to 7. Each method is for one
 * sentence of the document, or for one part of a sentence that names several edges.
 */
public final class ModelEdgesTest extends Programs {
    private static final int UNION = 0;
    private static final int MEET = 1;
    private static final int DIFFERENCE = 2;
    private static final int JOIN = 3;
    private static final int TURN = 4;
    private static final int CLOSURE = 5;

    /** How given orders are made, as the document tells it: how, a, b; one number is a rule. */
    private static final int[][][] ORDERS = {
        {},
        {{UNION, 5, 1}, {UNION, 12, 2}, {UNION, 13, 3}, {14}},
        {{UNION, 0, 1}, {UNION, 12, 2}, {UNION, 13, 3}, {14}},
        {{UNION, 5, 1}, {UNION, 12, 2}, {UNION, 13, 3}, {14},
            {DIFFERENCE, 0, 10}, {UNION, 15, 7}, {UNION, 16, 4}, {UNION, 17, 2}, {UNION, 18, 3},
            {19}},
        {{UNION, 5, 1}, {UNION, 12, 2}, {UNION, 13, 3}, {14},
            {DIFFERENCE, 0, 10}, {DIFFERENCE, 15, 11}, {UNION, 16, 7}, {UNION, 17, 4},
            {UNION, 18, 2}, {UNION, 19, 3}, {20}},
        {{UNION, 5, 1}, {UNION, 12, 2}, {UNION, 13, 3}, {14},
            {UNION, 6, 7}, {UNION, 15, 4}, {UNION, 16, 2}, {UNION, 17, 3}, {18}},
    };

    public static void main(String[] args) {
        madeNumbers();
        noSuchHow();
        noSuchFirstRelation();
        noSuchSecondRelation();
        secondDoesNotMatter();
        fortyFirstRelation();
        wrongFortyFirstRelation();
        refusedMakeChangesNothing();
        eachOfItself();
        differenceAlone();
        joinGoesBetween();
        turns();
        closureBySteps();
        closureByEachEvent();
        lastRelationIsMade();
        ruleCounts();
        noSuchRelationForRule();
        ninthRule();
        wrongNinthRule();
        eighthRuleCounts();
        allRulesMustHold();
        givenCounts();
        givenOfFullObject();
        noSuchGivenKind();
        refusedGivenChangesNothing();
        givenNoneLeavesNone();
        givenTwice();
        givenLeavesRoom();
        givenKeepsTheRest();
        givenRelationsAsTold();
        givenRulesAsTold();
        Checks.end("ModelEdgesTest");
    }

    private static OrderAxioms fences(int many) {
        OrderAxioms x = withThreads(1);
        addEvents(x, many, 0, FENCE, 0);
        return x;
    }

    private static void fillRelations(OrderAxioms x) {
        for (int i = x.count(3); i < 40; i++) {
            x.make(TURN, i - 1, 0);
        }
    }

    private static void madeNumbers() {
        OrderAxioms x = new OrderAxioms();
        for (int i = 12; i < 40; i++) {
            Checks.due("5: its number", x.make(i % 6, i - 12, i - 1), i);
            Checks.due("5: relations", x.count(3), i + 1);
        }
    }

    private static void noSuchHow() {
        OrderAxioms x = new OrderAxioms();
        for (int wild : new int[] {-1, 6, 7, Integer.MIN_VALUE, Integer.MAX_VALUE}) {
            Checks.throwing("5: how " + wild, ARGUMENT, () -> x.make(wild, 0, 0));
        }
        for (int how = UNION; how <= CLOSURE; how++) {
            Checks.due("5: how " + how, x.make(how, 0, 0), 12 + how);
        }
    }

    private static void noSuchFirstRelation() {
        OrderAxioms x = new OrderAxioms();
        for (int next = 12; next < 15; next++) {
            for (int how = UNION; how <= CLOSURE; how++) {
                int asked = how;
                int itself = next;
                Checks.throwing("5: of itself", ARGUMENT, () -> x.make(asked, itself, 0));
                Checks.throwing("5: of 40", ARGUMENT, () -> x.make(asked, 40, 0));
                for (int wild : WILD) {
                    Checks.throwing("5: of " + wild, ARGUMENT, () -> x.make(asked, wild, 0));
                }
            }
            Checks.due("5: of the last one", x.make(TURN, next - 1, 0), next);
        }
    }

    private static void noSuchSecondRelation() {
        OrderAxioms x = new OrderAxioms();
        for (int next = 12; next < 15; next++) {
            for (int how = UNION; how <= JOIN; how++) {
                int asked = how;
                int itself = next;
                Checks.throwing("5: with itself", ARGUMENT, () -> x.make(asked, 0, itself));
                Checks.throwing("5: with 40", ARGUMENT, () -> x.make(asked, 0, 40));
                for (int wild : WILD) {
                    Checks.throwing("5: with " + wild, ARGUMENT, () -> x.make(asked, 0, wild));
                }
            }
            Checks.due("5: with the last one", x.make(JOIN, 0, next - 1), next);
        }
    }

    private static void secondDoesNotMatter() {
        int[] seconds = {0, 11, 12, 13, 40, -1, Integer.MIN_VALUE, Integer.MAX_VALUE};
        for (int second : seconds) {
            OrderAxioms x = fences(3);
            Checks.due("5: TURN with " + second, x.make(TURN, 0, second), 12);
            Checks.due("5: CLOSURE with " + second, x.make(CLOSURE, 12, second), 13);
            x.rule(13);
            Checks.due("5: they can be used", x.run(), 1);
            x.look(0);
            Checks.due("5: TURN", pairsOf(x, 12, 3), "1-0 2-0 2-1");
            Checks.due("5: CLOSURE", pairsOf(x, 13, 3), "1-0 2-0 2-1");
        }
    }

    private static void fortyFirstRelation() {
        OrderAxioms x = new OrderAxioms();
        for (int i = 12; i < 39; i++) {
            x.make(UNION, 0, 1);
        }
        Checks.due("5: the fortieth", x.make(UNION, 0, 1), 39);
        for (int how = UNION; how <= CLOSURE; how++) {
            int asked = how;
            Checks.throwing("5: when there are forty", UNSUPPORTED, () -> x.make(asked, 0, 39));
        }
        Checks.throwing("5: TURN with none", UNSUPPORTED, () -> x.make(TURN, 39, 40));
        Checks.throwing("5: CLOSURE with none", UNSUPPORTED, () -> x.make(CLOSURE, 39, -1));
        Checks.due("5: there are still forty", x.count(3), 40);
        Checks.due("5: the last can be used", x.rule(39), 1);
        Checks.throwing("5: there is no other", ARGUMENT, () -> x.rule(40));
    }

    private static void wrongFortyFirstRelation() {
        OrderAxioms x = new OrderAxioms();
        fillRelations(x);
        Checks.throwing("5: how is told first", ARGUMENT, () -> x.make(6, 0, 0));
        Checks.throwing("5: how -1 too", ARGUMENT, () -> x.make(-1, 0, 0));
        Checks.throwing("5: the relation is told first", ARGUMENT, () -> x.make(UNION, 40, 0));
        Checks.throwing("5: the second too", ARGUMENT, () -> x.make(UNION, 0, 40));
        Checks.throwing("5: of TURN", ARGUMENT, () -> x.make(TURN, 40, 0));
        Checks.throwing("5: of CLOSURE", ARGUMENT, () -> x.make(CLOSURE, -1, 0));
    }

    private static void refusedMakeChangesNothing() {
        OrderAxioms x = storeBuffering();
        x.given(2);
        x.run();
        x.look(0);
        String before = stateOf(x, 2, 2);
        Checks.throwing("5: no how", ARGUMENT, () -> x.make(6, 0, 0));
        Checks.throwing("5: no first one", ARGUMENT, () -> x.make(UNION, 15, 0));
        Checks.throwing("5: no second one", ARGUMENT, () -> x.make(UNION, 0, 15));
        Checks.due("5: nothing has changed", stateOf(x, 2, 2), before);
        x.run();
        x.look(0);
        Checks.due("5: nor for a new run", stateOf(x, 2, 2), before);
        Checks.due("5: the next one", x.make(UNION, 0, 14), 15);
    }

    private static void eachOfItself() {
        OrderAxioms x = fences(4);
        String program = "0-1 0-2 0-3 1-2 1-3 2-3";
        String[] due = {program, program, "", "0-2 0-3 1-3", "1-0 2-0 2-1 3-0 3-1 3-2", program};
        for (int how = UNION; how <= CLOSURE; how++) {
            x.make(how, 0, 0);
        }
        x.look(0);
        for (int how = UNION; how <= CLOSURE; how++) {
            Checks.due("5: PROGRAM with itself, how " + how, pairsOf(x, 12 + how, 4), due[how]);
        }
    }

    private static void differenceAlone() {
        OrderAxioms x = fences(3);
        int next = x.make(DIFFERENCE, 0, x.make(JOIN, 0, 0));
        int none = x.make(DIFFERENCE, next, 0);
        int left = x.make(DIFFERENCE, 0, none);
        int met = x.make(MEET, none, 0);
        int joined = x.make(UNION, none, next);
        x.look(0);
        Checks.due("5: in the first one alone", pairsOf(x, next, 3), "0-1 1-2");
        Checks.due("5: not in the second one alone", pairsOf(x, none, 3), "");
        Checks.due("5: without nothing", pairsOf(x, left, 3), "0-1 0-2 1-2");
        Checks.due("5: MEET with nothing", pairsOf(x, met, 3), "");
        Checks.due("5: UNION with nothing", pairsOf(x, joined, 3), "0-1 1-2");
    }

    private static void joinGoesBetween() {
        OrderAxioms x = withThreads(1);
        x.event(0, WRITE, 0, 1);
        x.event(0, READ, 1, 0);
        x.event(0, WRITE, 2, 1);
        int there = x.make(JOIN, 10, 9);
        int back = x.make(JOIN, 9, 10);
        int turn = x.make(TURN, 0, 0);
        int around = x.make(JOIN, 0, turn);
        int aroundBack = x.make(JOIN, turn, 0);
        x.look(0);
        Checks.due("5: the first with it, it with the second", pairsOf(x, there, 3), "0-2");
        Checks.due("5: not the other way", pairsOf(x, back, 3), "");
        Checks.due("5: by one behind", pairsOf(x, around, 3), "0-0 0-1 1-0 1-1");
        Checks.due("5: by one before", pairsOf(x, aroundBack, 3), "1-1 1-2 2-1 2-2");
    }

    private static void turns() {
        OrderAxioms x = withThreads(2);
        x.event(0, WRITE, 0, 1);
        x.event(1, READ, 0, 0);
        x.event(1, WRITE, 0, 2);
        int from = x.make(TURN, 1, 0);
        int writes = x.make(TURN, 2, 0);
        int both = x.make(TURN, x.make(UNION, 2, writes), 0);
        // The read reads write 2; the order is 2, 0.
        x.look(5);
        Checks.due("5: TURN of FROM", pairsOf(x, from, 3), "1-2");
        Checks.due("5: TURN of WRITES", pairsOf(x, writes, 3), "0-2");
        Checks.due("5: TURN of both ways", pairsOf(x, both, 3), "0-2 2-0");
        // The read reads write 0; the order is 0, 2.
        x.look(2);
        Checks.due("5: in another execution", pairsOf(x, from, 3), "1-0");
        Checks.due("5: with another order", pairsOf(x, writes, 3), "2-0");
    }

    private static void closureBySteps() {
        OrderAxioms x = fences(12);
        int next = x.make(DIFFERENCE, 0, x.make(JOIN, 0, 0));
        int all = x.make(CLOSURE, next, 0);
        int none = x.make(CLOSURE, x.make(DIFFERENCE, 0, 0), 0);
        int less = x.make(DIFFERENCE, 0, all);
        int more = x.make(DIFFERENCE, all, 0);
        x.look(0);
        Checks.due("5: by eleven steps", x.related(all, 0, 11), true);
        Checks.due("5: by one step", x.related(all, 10, 11), true);
        Checks.due("5: not by none", x.related(all, 0, 0), false);
        Checks.due("5: by all steps", pairsOf(x, less, 12), "");
        Checks.due("5: by no others", pairsOf(x, more, 12), "");
        Checks.due("5: of nothing", pairsOf(x, none, 12), "");
        OrderAxioms y = fences(4);
        int back = y.make(TURN, y.make(DIFFERENCE, 0, y.make(JOIN, 0, 0)), 0);
        int backAll = y.make(CLOSURE, back, 0);
        int ways = y.make(CLOSURE, y.make(UNION, 0, back), 0);
        y.look(0);
        Checks.due("5: down by steps", pairsOf(y, backAll, 4), "1-0 2-0 2-1 3-0 3-1 3-2");
        Checks.due("5: round to itself", pairsOf(y, ways, 4), "0-0 0-1 0-2 0-3 1-0 1-1 1-2 1-3 "
            + "2-0 2-1 2-2 2-3 3-0 3-1 3-2 3-3");
    }

    private static void closureByEachEvent() {
        for (int between = 0; between < 3; between++) {
            OrderAxioms x = withThreads(2);
            for (int i = 0; i < 3; i++) {
                x.event(i == between ? 0 : 1, i == between ? READ : WRITE, 0, 1);
            }
            // The read reads the lower write and comes back before the higher one.
            x.make(CLOSURE, x.make(UNION, 1, 3), 0);
            x.look(2);
            int low = between == 0 ? 1 : 0;
            int high = between == 2 ? 1 : 2;
            Checks.due("5: step to " + between, x.related(13, low, between), true);
            Checks.due("5: step from " + between, x.related(13, between, high), true);
            Checks.due("5: steps by " + between, x.related(13, low, high), true);
            Checks.due("5: not back", x.related(13, high, low), false);
        }
    }

    private static void lastRelationIsMade() {
        OrderAxioms x = fences(3);
        x.make(TURN, 0, 0);
        fillRelations(x);
        x.rule(x.count(3) - 1);
        x.look(0);
        Checks.due("5: relation 38", pairsOf(x, 38, 3), "1-0 2-0 2-1");
        Checks.due("5: relation 39", pairsOf(x, 39, 3), "0-1 0-2 1-2");
        OrderAxioms y = fences(3);
        y.make(TURN, 0, 0);
        for (int i = 13; i < 39; i++) {
            y.make(UNION, i - 1, i - 1);
        }
        y.rule(y.make(UNION, 38, 0));
        Checks.due("5: relation 39 forbids", y.run(), 0);
        Checks.due("5: relation 39 breaks", y.look(0), 0);
    }

    private static void ruleCounts() {
        OrderAxioms x = new OrderAxioms();
        x.make(UNION, 0, 1);
        int[] relations = {0, 11, 12, 12, 0, 5, 7, 12};
        for (int i = 0; i < 8; i++) {
            Checks.due("6: how many there are", x.rule(relations[i]), i + 1);
            Checks.due("6: rules", x.count(4), i + 1);
        }
    }

    private static void noSuchRelationForRule() {
        OrderAxioms x = new OrderAxioms();
        for (int relations = 12; relations <= 40; relations += 14) {
            int next = relations;
            Checks.throwing("6: relation " + next, ARGUMENT, () -> x.rule(next));
            for (int wild : WILD) {
                Checks.throwing("6: relation " + wild, ARGUMENT, () -> x.rule(wild));
            }
            for (int i = 0; i < 14 && relations < 40; i++) {
                x.make(UNION, 0, 1);
            }
        }
        Checks.due("6: no rule came", x.count(4), 0);
        Checks.due("6: the first relation", x.rule(0), 1);
        Checks.due("6: the last relation", x.rule(39), 2);
    }

    private static void ninthRule() {
        OrderAxioms x = new OrderAxioms();
        for (int i = 0; i < 8; i++) {
            x.rule(i);
        }
        for (int relation = 0; relation < 12; relation++) {
            int asked = relation;
            Checks.throwing("6: when there are eight", UNSUPPORTED, () -> x.rule(asked));
        }
        Checks.due("6: there are still eight", x.count(4), 8);
    }

    private static void wrongNinthRule() {
        OrderAxioms x = new OrderAxioms();
        for (int i = 0; i < 8; i++) {
            x.rule(0);
        }
        Checks.throwing("6: the relation is told first", ARGUMENT, () -> x.rule(12));
        for (int wild : WILD) {
            Checks.throwing("6: also " + wild, ARGUMENT, () -> x.rule(wild));
        }
        x.given(0);
        Checks.due("6: none after given(0)", x.rule(0), 1);
    }

    private static void eighthRuleCounts() {
        OrderAxioms x = fences(2);
        int around = x.make(UNION, 0, x.make(TURN, 0, 0));
        for (int i = 0; i < 7; i++) {
            x.rule(0);
        }
        Checks.due("6: seven rules hold", x.look(0), -1);
        Checks.due("6: seven rules allow", x.run(), 1);
        x.rule(around);
        Checks.due("6: the eighth breaks", x.look(0), 7);
        Checks.due("6: the eighth forbids", x.run(), 0);
        Checks.throwing("6: a ninth is refused", UNSUPPORTED, () -> x.rule(0));
        Checks.due("6: the eighth still breaks", x.look(0), 7);
    }

    private static void allRulesMustHold() {
        OrderAxioms x = storeBuffering();
        x.rule(x.make(JOIN, 1, x.make(TURN, 10, 0)));
        Checks.due("6: not both reads from writes", outcomesOf(x), "[0 0][0 1][1 0]");
        x.given(2);
        Checks.due("6: not both from the beginning", outcomesOf(x), "[0 1][1 0][1 1]");
        x.rule(x.make(JOIN, 1, x.make(TURN, 10, 0)));
        Checks.due("6: neither", outcomesOf(x), "[0 1][1 0]");
        Checks.due("6: broken by the first", x.look(0), 0);
        Checks.due("6: by none", x.look(1), -1);
        Checks.due("6: broken by the second", x.look(3), 1);
    }

    private static void givenCounts() {
        int[] relations = {12, 15, 15, 20, 21, 19};
        int[] rules = {0, 1, 1, 2, 2, 2};
        for (int kind = 0; kind < 6; kind++) {
            OrderAxioms x = new OrderAxioms();
            Checks.due("7: how many relations there are", x.given(kind), relations[kind]);
            Checks.due("7: relations", x.count(3), relations[kind]);
            Checks.due("7: rules", x.count(4), rules[kind]);
        }
    }

    private static void givenOfFullObject() {
        int[] relations = {12, 15, 15, 20, 21, 19};
        int[] rules = {0, 1, 1, 2, 2, 2};
        for (int kind = 0; kind < 6; kind++) {
            OrderAxioms x = new OrderAxioms();
            fillRelations(x);
            for (int i = 0; i < 8; i++) {
                x.rule(39 - i);
            }
            Checks.due("7: of forty relations", x.given(kind), relations[kind]);
            Checks.due("7: of eight rules", x.count(4), rules[kind]);
            int next = relations[kind];
            Checks.throwing("7: made ones are gone", ARGUMENT, () -> x.rule(next));
            Checks.throwing("7: for make too", ARGUMENT, () -> x.make(UNION, next, 0));
        }
    }

    private static void noSuchGivenKind() {
        OrderAxioms x = new OrderAxioms();
        for (int wild : new int[] {-1, 6, 7, Integer.MIN_VALUE, Integer.MAX_VALUE}) {
            Checks.throwing("7: kind " + wild, ARGUMENT, () -> x.given(wild));
        }
        Checks.due("7: nothing was given", countsOf(x), "0 0 0 12 0 0 0 0");
    }

    private static void refusedGivenChangesNothing() {
        OrderAxioms x = storeBuffering();
        x.given(2);
        x.make(TURN, 14, 0);
        x.rule(15);
        x.run();
        x.look(0);
        String before = stateOf(x, 2, 2);
        Checks.throwing("7: kind 6", ARGUMENT, () -> x.given(6));
        Checks.throwing("7: kind -1", ARGUMENT, () -> x.given(-1));
        Checks.due("7: nothing has changed", stateOf(x, 2, 2), before);
        x.run();
        x.look(0);
        Checks.due("7: nor for a new run", stateOf(x, 2, 2), before);
    }

    private static void givenNoneLeavesNone() {
        OrderAxioms x = storeBuffering();
        x.given(2);
        Checks.due("7: a rule forbids", x.run(), 3);
        Checks.due("7: none", x.given(0), 12);
        Checks.due("7: rules are gone", x.run(), 4);
        Checks.due("7: none breaks", x.look(0), -1);
        Checks.throwing("7: relations are gone", INDEX, () -> x.related(12, 0, 1) ? 1 : 0);
        Checks.due("7: numbers begin again", x.make(TURN, 0, 0), 12);
    }

    private static void givenTwice() {
        for (int kind = 0; kind < 6; kind++) {
            OrderAxioms x = storeBufferingFenced();
            int relations = x.given(kind);
            String once = outcomesOf(x) + countsOf(x);
            Checks.due("7: once more", x.given(kind), relations);
            Checks.due("7: the same again", outcomesOf(x) + countsOf(x), once);
        }
    }

    private static void givenLeavesRoom() {
        int[] relations = {12, 15, 15, 20, 21, 19};
        int[] rules = {0, 1, 1, 2, 2, 2};
        for (int kind = 0; kind < 6; kind++) {
            OrderAxioms x = new OrderAxioms();
            x.given(kind);
            for (int i = relations[kind]; i < 40; i++) {
                Checks.due("7: numbers go on", x.make(UNION, i - 1, 0), i);
            }
            Checks.throwing("7: forty in all", UNSUPPORTED, () -> x.make(UNION, 0, 0));
            for (int i = rules[kind]; i < 8; i++) {
                Checks.due("7: rules go on", x.rule(39), i + 1);
            }
            Checks.throwing("7: eight in all", UNSUPPORTED, () -> x.rule(0));
        }
    }

    private static void givenKeepsTheRest() {
        for (int kind = 0; kind < 6; kind++) {
            OrderAxioms x = loadBuffering(true);
            x.given(2);
            x.run();
            x.look(3);
            x.given(kind);
            Checks.due("7: the program stays", x.count(0) + " " + x.count(1) + " " + x.count(2),
                "2 4 2");
            Checks.due("7: dependences stay", x.depends(0, 1), false);
            Checks.due("7: what was listed stays", listedOf(x, 2) + witnessesOf(x),
                "[0 0][0 1][1 0][1 of 0][1 of 1][1 of 2]");
            Checks.due("7: what was looked at stays", sourcesOf(x, 2) + " / " + ringOf(x),
                "3 1 / 0 1 2 3");
            Checks.due("7: with its relations", pairsOf(x, 14, 4), "0-1 1-2 2-3 3-0");
        }
    }

    /** Reads and writes of both places in both threads, with fences and dependences. */
    private static OrderAxioms mixed() {
        OrderAxioms x = withThreads(2);
        x.event(0, WRITE, 0, 1);
        x.event(0, READ, 1, 0);
        x.event(1, WRITE, 1, 2);
        x.event(0, FENCE, 0, 0);
        x.event(0, WRITE, 1, 1);
        x.event(0, READ, 0, 0);
        x.event(1, WRITE, 0, 2);
        x.event(1, FENCE, 0, 0);
        x.event(1, READ, 0, 0);
        x.depends(1, 4);
        x.depends(1, 5);
        return x;
    }

    private static OrderAxioms mixedUnderMade(int kind) {
        OrderAxioms x = mixed();
        for (int[] step : ORDERS[kind]) {
            if (step.length == 1) {
                x.rule(step[0]);
            } else {
                x.make(step[0], step[1], step[2]);
            }
        }
        return x;
    }

    private static void givenRelationsAsTold() {
        for (int kind = 1; kind < 6; kind++) {
            int relations = mixedUnderMade(kind).count(3);
            for (int relation = 12; relation < relations; relation++) {
                OrderAxioms x = mixed();
                OrderAxioms y = mixedUnderMade(kind);
                x.given(kind);
                for (int e = 5; e < 108; e += 50) {
                    x.look(e);
                    y.look(e);
                    Checks.due("7: relation " + relation + " of " + kind, pairsOf(x, relation, 9),
                        pairsOf(y, relation, 9));
                }
            }
        }
    }

    private static void givenRulesAsTold() {
        for (int kind = 0; kind < 6; kind++) {
            OrderAxioms x = mixed();
            OrderAxioms y = mixedUnderMade(kind);
            x.given(kind);
            for (int e = 0; e < 108; e++) {
                Checks.due("7: rule of " + kind + " for " + e, x.look(e), y.look(e));
                Checks.due("7: ring of " + kind + " for " + e, x.ring(), y.ring());
            }
            Checks.due("7: outcomes of " + kind, outcomesOf(x), outcomesOf(y));
        }
    }
}
