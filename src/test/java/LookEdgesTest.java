/**
 * The edges of executions and of what is asked of the one looked at: promises 11 to 16, and what
 * the document says of executions and given relations. Each method is for one sentence, or for
 * one part of it.
 */
public final class LookEdgesTest extends Programs {
    public static void main(String[] args) {
        lookAtFirstAndLast();
        lookAtNone();
        lookAtNothing();
        lookAboveTheLimit();
        refusedLookKeepsLookedAt();
        lookAtProgramAsItIs();
        lookUnderRulesAsTheyAre();
        lookTellsFirstBroken();
        lookListsNothing();
        numbersBySources();
        numbersByOrders();
        rowsLikeWords();
        sourcesOfAnyNumber();
        sourceOfNoRead();
        sourceCountsReads();
        sourceOfProgramThen();
        orderOfNoPlace();
        orderOfNoWrite();
        orderOfProgramThen();
        relatedToNoEvent();
        relatedInNoRelation();
        relatedOfProgramThen();
        relatedInRelationsThen();
        programRelation();
        fromAndOuterRelations();
        writesRelation();
        backRelation();
        sameRelation();
        fencedRelation();
        kindRelations();
        fullProgramRelations();
        relationsOfProgramBefore();
        ringWithout();
        ringOfOneAlone();
        ringOfOneAmongFew();
        ringOfOneAmongMany();
        ringOfTwelve();
        ringOfFirstBrokenRule();
        ringIsShortest();
        ringBeginsLowest();
        ringGoesOnLowest();
        ringAtNoNumber();
        ringStays();
        Checks.end("LookEdgesTest");
    }

    private static int related(OrderAxioms x, int relation, int a, int b) {
        return x.related(relation, a, b) ? 1 : 0;
    }

    /** 4! * 5^2 * 2^3 = 4800 executions: no program has from 4801 to 5039. */
    private static OrderAxioms largest() {
        OrderAxioms x = withThreads(1);
        addEvents(x, 4, 0, WRITE, 0);
        addEvents(x, 1, 0, WRITE, 1);
        addEvents(x, 2, 0, READ, 0);
        addEvents(x, 3, 0, READ, 1);
        return x;
    }

    private static void lookAtFirstAndLast() {
        OrderAxioms x = largest();
        Checks.due("11: the first", x.look(0), -1);
        Checks.due("11: its sources", sourcesOf(x, 5), "-1 -1 -1 -1 -1");
        Checks.due("11: its order", orderOf(x, 0, 4), "0 1 2 3");
        Checks.due("11: the last", x.look(4799), -1);
        Checks.due("11: its sources", sourcesOf(x, 5), "3 3 4 4 4");
        Checks.due("11: its order", orderOf(x, 0, 4), "3 2 1 0");
        Checks.throwing("11: one more", INDEX, () -> x.look(4800));
        Checks.throwing("11: up to the limit", INDEX, () -> x.look(5000));
    }

    private static void lookAtNone() {
        OrderAxioms x = storeBuffering();
        for (int wild : new int[] {-1, 4, 5, 4999, 5000, Integer.MIN_VALUE, Integer.MAX_VALUE}) {
            Checks.throwing("11: before a run " + wild, INDEX, () -> x.look(wild));
        }
        x.run();
        for (int wild : new int[] {-1, 4, 5, 4999, 5000, Integer.MIN_VALUE, Integer.MAX_VALUE}) {
            Checks.throwing("11: after a run " + wild, INDEX, () -> x.look(wild));
        }
        Checks.due("11: the last", x.look(3), -1);
    }

    private static void lookAtNothing() {
        OrderAxioms x = new OrderAxioms();
        x.rule(0);
        Checks.due("11: no threads", x.look(0), -1);
        Checks.throwing("11: no second one", INDEX, () -> x.look(1));
        Checks.throwing("11: none before", INDEX, () -> x.look(-1));
        Checks.throwing("12: no sources", INDEX, () -> x.source(0));
        Checks.throwing("13: no orders", INDEX, () -> x.order(0, 0));
        Checks.throwing("14: no events", INDEX, () -> related(x, 0, 0, 0));
        Checks.due("15: no ring", x.ring(), 0);
        x.thread();
        addEvents(x, 5, 0, FENCE, 0);
        Checks.due("11: fences alone", x.look(0), -1);
        Checks.throwing("11: have one execution", INDEX, () -> x.look(1));
    }

    private static void lookAboveTheLimit() {
        OrderAxioms x = withThreads(1);
        addEvents(x, 6, 0, WRITE, 0);
        Checks.due("11: 720", x.look(719), -1);
        x.event(0, READ, 0, 0);
        for (int e : new int[] {0, 1, 719, 5000, 5039, 5040, -1, Integer.MIN_VALUE,
                Integer.MAX_VALUE}) {
            Checks.throwing("11: 5040, told first for " + e, UNSUPPORTED, () -> x.look(e));
        }
        Checks.due("11: what was looked at stays", orderOf(x, 0, 6), "5 4 3 2 1 0");
        Checks.throwing("11: without the read", INDEX, () -> x.source(0));
        OrderAxioms y = withThreads(1);
        addEvents(y, 12, 0, WRITE, 0);
        Checks.throwing("11: twelve writes", UNSUPPORTED, () -> y.look(0));
        Checks.throwing("11: nothing was looked at", INDEX, () -> y.order(0, 0));
    }

    private static void refusedLookKeepsLookedAt() {
        OrderAxioms x = storeBuffering();
        x.given(2);
        x.run();
        x.look(0);
        String before = stateOf(x, 2, 2);
        x.event(0, WRITE, 1, 2);
        Checks.throwing("11: no such one", INDEX, () -> x.look(12));
        Checks.throwing("11: nor this", INDEX, () -> x.look(-1));
        x.given(0);
        Checks.throwing("11: nor without rules", INDEX, () -> x.look(12));
        Checks.due("11: sources stay", sourcesOf(x, 2), "-1 -1");
        Checks.due("11: the ring stays", ringOf(x), "0 1 2 3");
        Checks.due("11: relations stay", pairsOf(x, 14, 4), "0-1 1-2 2-3 3-0");
        Checks.throwing("11: events too", INDEX, () -> related(x, 0, 0, 4));
        Checks.throwing("11: orders too", INDEX, () -> x.order(1, 1));
        Checks.due("11: before", before, "2 4 2 15 1 3 4 3 / [0 1][1 0][1 1] / "
            + "[1 of 1][1 of 2][1 of 3] / -1 -1 / 0 1 2 3");
    }

    private static void lookAtProgramAsItIs() {
        OrderAxioms x = withThreads(1);
        x.event(0, READ, 0, 0);
        x.run();
        Checks.throwing("11: one execution", INDEX, () -> x.look(1));
        x.event(0, WRITE, 0, 1);
        Checks.due("11: now two, without a run", x.look(1), -1);
        Checks.due("11: of the new write", x.source(0), 1);
        x.clear();
        Checks.throwing("11: one again", INDEX, () -> x.look(1));
        Checks.due("11: the empty one", x.look(0), -1);
        Checks.throwing("11: without reads", INDEX, () -> x.source(0));
    }

    private static void lookUnderRulesAsTheyAre() {
        OrderAxioms x = storeBuffering();
        Checks.due("11: no rules", x.look(0), -1);
        x.given(2);
        Checks.due("11: a rule", x.look(0), 0);
        x.given(3);
        Checks.due("11: two others", x.look(0), -1);
        x.rule(x.make(0, x.make(0, 0, 3), 1));
        Checks.due("11: one more", x.look(0), 2);
        x.given(0);
        Checks.due("11: none again", x.look(0), -1);
    }

    private static void lookTellsFirstBroken() {
        OrderAxioms x = withThreads(1);
        addEvents(x, 2, 0, WRITE, 0);
        int both = x.make(0, 11, 2);
        int turned = x.make(0, 2, x.make(4, 11, 0));
        x.rule(0);
        x.rule(both);
        x.rule(turned);
        x.rule(both);
        Checks.due("11: not the one before, not the one behind", x.look(0), 2);
        Checks.due("11: the first of two", x.look(1), 1);
        x.rule(x.make(0, both, turned));
        Checks.due("11: also when more break", x.look(0), 2);
        Checks.due("11: of three", x.look(1), 1);
    }

    private static void lookListsNothing() {
        OrderAxioms x = storeBuffering();
        x.look(3);
        Checks.due("11: nothing is listed", countsOf(x), "2 4 2 12 0 0 0 0");
        x.run();
        x.given(2);
        x.event(0, WRITE, 0, 5);
        x.look(5);
        Checks.due("11: what was listed stays", listedOf(x, 2) + witnessesOf(x),
            "[0 0][0 1][1 0][1 1][1 of 0][1 of 1][1 of 2][1 of 3]");
    }

    private static void numbersBySources() {
        OrderAxioms x = withThreads(2);
        x.event(0, READ, 3, 0);
        x.event(1, WRITE, 3, 1);
        x.event(0, WRITE, 0, 1);
        x.event(1, READ, 0, 0);
        x.event(0, READ, 3, 0);
        // Digits: read 0, then read 3, then read 4, whatever their places.
        String[] due = {"-1 -1 -1", "-1 -1 1", "-1 2 -1", "-1 2 1", "1 -1 -1", "1 -1 1", "1 2 -1",
            "1 2 1"};
        for (int e = 0; e < due.length; e++) {
            x.look(e);
            Checks.due("11: sources of " + e, sourcesOf(x, 3), due[e]);
        }
        Checks.throwing("11: no more", INDEX, () -> x.look(8));
    }

    private static void numbersByOrders() {
        OrderAxioms x = withThreads(1);
        for (int place = 3; place >= 0; place--) {
            addEvents(x, 2, 0, WRITE, place);
        }
        x.event(0, READ, 2, 0);
        for (int e = 0; e < 48; e++) {
            x.look(e);
            Checks.due("11: the source goes first", x.source(0), e < 16 ? -1 : e < 32 ? 2 : 3);
            for (int place = 0; place < 4; place++) {
                int turned = e >> (3 - place) & 1;
                Checks.due("11: place " + place + " of " + e, x.order(place, 0),
                    6 - 2 * place + turned);
            }
        }
    }

    private static void rowsLikeWords() {
        OrderAxioms x = withThreads(2);
        x.event(0, FENCE, 0, 0);
        x.event(1, WRITE, 1, 1);
        x.event(0, WRITE, 1, 1);
        x.event(0, FENCE, 0, 0);
        x.event(1, WRITE, 1, 1);
        x.event(0, WRITE, 1, 1);
        int[] writes = {1, 2, 4, 5};
        int e = 0;
        for (int a : writes) {
            for (int b : writes) {
                for (int c : writes) {
                    for (int d : writes) {
                        if (a + b + c + d == 12 && (1 << a | 1 << b | 1 << c | 1 << d) == 54) {
                            x.look(e);
                            Checks.due("13: row " + e, orderOf(x, 1, 4),
                                a + " " + b + " " + c + " " + d);
                            e++;
                        }
                    }
                }
            }
        }
        Checks.due("13: rows", e, 24);
        Checks.throwing("13: no more rows", INDEX, () -> x.look(24));
    }

    private static void sourcesOfAnyNumber() {
        OrderAxioms x = withThreads(2);
        x.event(0, WRITE, 0, 1);
        x.event(1, READ, 0, 0);
        x.event(1, WRITE, 0, 2);
        x.event(0, WRITE, 0, 3);
        x.event(0, WRITE, 1, 4);
        int[] due = {-1, 0, 2, 3};
        for (int i = 0; i < 4; i++) {
            x.look(6 * i);
            Checks.due("12: of any thread, whatever its number", x.source(0), due[i]);
        }
        Checks.throwing("12: not of another place", INDEX, () -> x.look(24));
    }

    private static void sourceOfNoRead() {
        OrderAxioms x = storeBuffering();
        Checks.throwing("12: before a look", INDEX, () -> x.source(0));
        x.look(1);
        for (int wild : new int[] {-1, 2, 3, 12, Integer.MIN_VALUE, Integer.MAX_VALUE}) {
            Checks.throwing("12: read " + wild, INDEX, () -> x.source(wild));
        }
        Checks.due("12: the others", sourcesOf(x, 2), "-1 0");
        OrderAxioms y = withThreads(1);
        addEvents(y, 12, 0, READ, 0);
        y.look(0);
        Checks.due("12: read 11", y.source(11), -1);
        Checks.throwing("12: read 12", INDEX, () -> y.source(12));
    }

    private static void sourceCountsReads() {
        OrderAxioms x = withThreads(2);
        x.event(0, FENCE, 0, 0);
        x.event(0, WRITE, 2, 1);
        x.event(1, READ, 2, 0);
        x.event(0, WRITE, 1, 1);
        x.event(1, READ, 1, 0);
        x.look(3);
        Checks.due("12: of the reads, not of all events", sourcesOf(x, 2), "1 3");
        Checks.throwing("12: there are two", INDEX, () -> x.source(2));
    }

    private static void sourceOfProgramThen() {
        OrderAxioms x = storeBuffering();
        x.look(3);
        x.event(0, READ, 0, 0);
        Checks.throwing("12: a read that came later", INDEX, () -> x.source(2));
        x.clear();
        Checks.due("12: reads that went later", sourcesOf(x, 2), "2 0");
        x.thread();
        x.event(0, READ, 3, 0);
        x.run();
        Checks.due("12: also with a program that came later", sourcesOf(x, 2), "2 0");
        x.look(0);
        Checks.due("12: until it is looked at", x.source(0), -1);
        Checks.throwing("12: it has one read", INDEX, () -> x.source(1));
    }

    private static void orderOfNoPlace() {
        OrderAxioms x = withThreads(1);
        for (int place = 0; place < 4; place++) {
            x.event(0, WRITE, place, 1);
        }
        Checks.throwing("13: before a look", INDEX, () -> x.order(0, 0));
        x.look(0);
        for (int wild : new int[] {-1, 4, 5, Integer.MIN_VALUE, Integer.MAX_VALUE}) {
            Checks.throwing("13: place " + wild, INDEX, () -> x.order(wild, 0));
            Checks.throwing("13: neither", INDEX, () -> x.order(wild, -1));
        }
        for (int place = 0; place < 4; place++) {
            Checks.due("13: place " + place, x.order(place, 0), place);
        }
    }

    private static void orderOfNoWrite() {
        OrderAxioms x = withThreads(1);
        addEvents(x, 2, 0, WRITE, 0);
        addEvents(x, 2, 0, READ, 1);
        addEvents(x, 1, 0, FENCE, 2);
        addEvents(x, 4, 0, WRITE, 3);
        x.look(0);
        int[] writes = {2, 0, 0, 4};
        for (int place = 0; place < 4; place++) {
            int asked = place;
            int many = writes[place];
            Checks.throwing("13: write " + many, INDEX, () -> x.order(asked, many));
            Checks.throwing("13: write 12", INDEX, () -> x.order(asked, 12));
            for (int wild : WILD) {
                Checks.throwing("13: write " + wild, INDEX, () -> x.order(asked, wild));
            }
        }
        Checks.due("13: the others", orderOf(x, 0, 2) + " / " + orderOf(x, 3, 4), "0 1 / 5 6 7 8");
    }

    private static void orderOfProgramThen() {
        OrderAxioms x = withThreads(1);
        addEvents(x, 2, 0, WRITE, 1);
        x.look(1);
        x.event(0, WRITE, 1, 1);
        x.event(0, WRITE, 2, 1);
        Checks.throwing("13: a write that came later", INDEX, () -> x.order(1, 2));
        Checks.throwing("13: of another place", INDEX, () -> x.order(2, 0));
        x.clear();
        x.thread();
        x.event(0, WRITE, 0, 1);
        x.run();
        Checks.due("13: writes that went later", orderOf(x, 1, 2), "1 0");
        Checks.throwing("13: not the new one", INDEX, () -> x.order(0, 0));
        x.look(0);
        Checks.due("13: until it is looked at", x.order(0, 0), 0);
        Checks.throwing("13: then the old ones are gone", INDEX, () -> x.order(1, 0));
    }

    private static void relatedToNoEvent() {
        OrderAxioms x = storeBuffering();
        Checks.throwing("14: before a look", INDEX, () -> related(x, 0, 0, 1));
        x.look(0);
        for (int wild : new int[] {-1, 4, 11, 12, 31, 32, 36, Integer.MIN_VALUE,
                Integer.MAX_VALUE}) {
            for (int relation = 0; relation < 12; relation += 11) {
                int asked = relation;
                Checks.throwing("14: first " + wild, INDEX, () -> related(x, asked, wild, 0));
                Checks.throwing("14: second " + wild, INDEX, () -> related(x, asked, 0, wild));
                Checks.throwing("14: both " + wild, INDEX, () -> related(x, asked, wild, wild));
            }
        }
        Checks.due("14: the last event", x.related(0, 2, 3), true);
        Checks.due("14: with itself", x.related(0, 3, 3), false);
    }

    private static void relatedInNoRelation() {
        OrderAxioms x = storeBuffering();
        x.look(0);
        for (int wild : new int[] {-1, 12, 13, 39, 40, Integer.MIN_VALUE, Integer.MAX_VALUE}) {
            Checks.throwing("14: relation " + wild, INDEX, () -> related(x, wild, 0, 1));
            Checks.throwing("14: no event either", INDEX, () -> related(x, wild, 4, 4));
        }
        for (int i = 12; i < 40; i++) {
            x.make(0, 0, i - 1);
        }
        x.look(0);
        Checks.due("14: relation 39", x.related(39, 0, 1), true);
        Checks.throwing("14: relation 40", INDEX, () -> related(x, 40, 0, 1));
    }

    private static void relatedOfProgramThen() {
        OrderAxioms x = loadBuffering(false);
        x.look(3);
        x.depends(0, 1);
        x.event(0, FENCE, 0, 0);
        Checks.throwing("14: an event that came later", INDEX, () -> related(x, 0, 0, 4));
        Checks.due("14: a dependence that came later", x.related(6, 0, 1), false);
        x.clear();
        x.thread();
        x.event(0, FENCE, 0, 0);
        Checks.due("14: events that went later", pairsOf(x, 0, 4), "0-1 2-3");
        Checks.due("14: with their sources", pairsOf(x, 1, 4), "1-2 3-0");
        x.run();
        Checks.due("14: also after a run", pairsOf(x, 9, 4), "0-1 2-3");
        x.look(0);
        Checks.throwing("14: until another is looked at", INDEX, () -> related(x, 0, 0, 1));
        Checks.due("14: which has one event", x.related(0, 0, 0), false);
    }

    private static void relatedInRelationsThen() {
        OrderAxioms x = loadBuffering(false);
        x.make(4, 0, 0);
        x.look(3);
        x.make(0, 0, 12);
        Checks.throwing("14: a relation made later", INDEX, () -> related(x, 13, 0, 1));
        x.given(0);
        Checks.due("14: a relation that went later", pairsOf(x, 12, 4), "1-0 3-2");
        x.make(5, 1, 0);
        Checks.due("14: not the one of its number now", pairsOf(x, 12, 4), "1-0 3-2");
        x.look(3);
        Checks.due("14: until it is looked at", pairsOf(x, 12, 4), "1-2 3-0");
    }

    private static void programRelation() {
        OrderAxioms x = withThreads(3);
        int[] threads = {0, 2, 1, 0, 2, 0};
        for (int i = 0; i < 6; i++) {
            x.event(threads[i], i % 3, i % 4, 1);
        }
        x.look(0);
        Checks.due("14: PROGRAM", pairsOf(x, 0, 6), "0-3 0-5 1-4 3-5");
        OrderAxioms y = withThreads(2);
        y.event(0, FENCE, 0, 0);
        y.event(1, FENCE, 0, 0);
        y.event(0, FENCE, 0, 0);
        y.look(0);
        Checks.due("14: of fences too", pairsOf(y, 0, 3), "0-2");
    }

    private static void fromAndOuterRelations() {
        OrderAxioms x = withThreads(2);
        x.event(0, WRITE, 0, 1);
        x.event(0, READ, 0, 0);
        x.event(1, READ, 0, 0);
        x.event(1, WRITE, 0, 1);
        String[] from = {"", "0-2", "3-2", "0-1", "0-1 0-2", "0-1 3-2", "3-1", "0-2 3-1",
            "3-1 3-2"};
        String[] outer = {"", "0-2", "", "", "0-2", "", "3-1", "0-2 3-1", "3-1"};
        for (int i = 0; i < from.length; i++) {
            x.look(2 * i);
            Checks.due("14: FROM of " + i, pairsOf(x, 1, 4), from[i]);
            Checks.due("14: OUTER of " + i, pairsOf(x, 4, 4), outer[i]);
        }
        OrderAxioms y = withThreads(4);
        for (int thread = 0; thread < 4; thread++) {
            y.event(thread, READ, 0, 0);
        }
        y.event(2, WRITE, 0, 1);
        y.look(15);
        Checks.due("14: FROM one write", pairsOf(y, 1, 5), "4-0 4-1 4-2 4-3");
        Checks.due("14: OUTER of one write", pairsOf(y, 4, 5), "4-0 4-1 4-3");
    }

    private static void writesRelation() {
        OrderAxioms x = withThreads(2);
        x.event(0, WRITE, 0, 1);
        x.event(1, WRITE, 1, 1);
        x.event(1, WRITE, 0, 1);
        x.event(0, WRITE, 0, 1);
        x.event(0, WRITE, 1, 1);
        x.look(0);
        Checks.due("14: WRITES, of one place", pairsOf(x, 2, 5), "0-2 0-3 1-4 2-3");
        x.look(11);
        Checks.due("14: WRITES, the other way", pairsOf(x, 2, 5), "2-0 3-0 3-2 4-1");
    }

    private static void backRelation() {
        OrderAxioms x = withThreads(2);
        x.event(0, WRITE, 0, 1);
        x.event(0, READ, 0, 0);
        x.event(1, WRITE, 0, 1);
        x.event(1, WRITE, 0, 1);
        x.event(1, WRITE, 1, 1);
        String[] due = {"1-0 1-2 1-3", "1-2 1-3", "1-3", ""};
        for (int i = 0; i < 4; i++) {
            x.look(6 * i);
            Checks.due("14: BACK, in order, source " + i, pairsOf(x, 3, 5), due[i]);
        }
        String[] turned = {"1-0 1-2 1-3", "", "1-0", "1-0 1-2"};
        for (int i = 0; i < 4; i++) {
            x.look(6 * i + 5);
            Checks.due("14: BACK, turned, source " + i, pairsOf(x, 3, 5), turned[i]);
        }
    }

    private static void sameRelation() {
        OrderAxioms x = withThreads(2);
        x.event(0, WRITE, 0, 1);
        x.event(0, FENCE, 0, 1);
        x.event(0, READ, 0, 0);
        x.event(1, READ, 0, 0);
        x.event(0, READ, 1, 0);
        x.event(0, FENCE, 1, 0);
        x.event(0, READ, 0, 0);
        x.look(0);
        Checks.due("14: SAME, of one thread and place", pairsOf(x, 5, 7), "0-2 0-6 2-6");
    }

    private static void fencedRelation() {
        OrderAxioms x = withThreads(2);
        x.event(0, WRITE, 0, 1);
        x.event(0, READ, 0, 0);
        x.event(1, FENCE, 0, 0);
        x.event(0, READ, 0, 0);
        x.event(0, FENCE, 0, 0);
        x.event(0, FENCE, 0, 0);
        x.event(0, READ, 1, 0);
        x.event(0, FENCE, 0, 0);
        x.look(0);
        Checks.due("14: FENCED, with a fence between", pairsOf(x, 7, 8), "0-6 1-6 3-6");
        OrderAxioms y = withThreads(2);
        y.event(0, FENCE, 0, 0);
        y.event(0, WRITE, 0, 1);
        y.event(1, WRITE, 0, 1);
        y.event(1, FENCE, 0, 0);
        y.event(0, WRITE, 1, 1);
        y.event(1, WRITE, 1, 1);
        y.look(0);
        Checks.due("14: FENCED, of its own thread", pairsOf(y, 7, 6), "2-5");
        OrderAxioms z = withThreads(1);
        addEvents(z, 2, 0, READ, 0);
        addEvents(z, 1, 0, FENCE, 0);
        addEvents(z, 2, 0, WRITE, 1);
        z.look(0);
        Checks.due("14: FENCED, all behind it", pairsOf(z, 7, 5), "0-3 0-4 1-3 1-4");
    }

    private static void kindRelations() {
        OrderAxioms x = withThreads(2);
        x.event(0, READ, 0, 0);
        x.event(0, WRITE, 1, 1);
        x.event(0, FENCE, 0, 0);
        x.event(1, WRITE, 2, 1);
        x.event(0, READ, 2, 0);
        x.event(0, WRITE, 3, 1);
        x.event(1, READ, 0, 0);
        x.look(0);
        Checks.due("14: READ-READ", pairsOf(x, 8, 7), "0-4");
        Checks.due("14: READ-WRITE", pairsOf(x, 9, 7), "0-1 0-5 4-5");
        Checks.due("14: WRITE-READ", pairsOf(x, 10, 7), "1-4 3-6");
        Checks.due("14: WRITE-WRITE", pairsOf(x, 11, 7), "1-5");
    }

    private static void fullProgramRelations() {
        OrderAxioms x = withThreads(4);
        for (int i = 0; i < 12; i++) {
            x.event(i % 4, i == 5 ? FENCE : i < 9 ? READ : WRITE, 0, 1);
        }
        x.depends(1, 9);
        x.depends(3, 11);
        // 4^8 * 3! executions are too many; with three places read of nothing they are few.
        Checks.throwing("14: too many", UNSUPPORTED, () -> x.look(0));
        x.clear();
        addThreads(x, 4);
        for (int i = 0; i < 12; i++) {
            x.event(i % 4, i == 5 ? FENCE : i < 9 ? READ : WRITE, i < 8 ? 1 : 2, 1);
        }
        x.depends(3, 11);
        // The last event is the source of read 8, and the last one in the order.
        x.look(18);
        Checks.due("14: FROM event 11", x.related(1, 11, 8), true);
        Checks.due("14: OUTER of event 11", x.related(4, 11, 8), true);
        Checks.due("14: WRITES up to event 11", pairsOf(x, 2, 12), "9-10 9-11 10-11");
        Checks.due("14: BACK of the last", x.related(3, 8, 11), false);
        Checks.due("14: DEPENDS of event 11", x.related(6, 3, 11), true);
        Checks.due("14: FENCED by event 5", pairsOf(x, 7, 12), "1-9");
        Checks.due("14: SAME needs one place", x.related(5, 3, 11), false);
        Checks.due("14: READ-WRITE of event 11", x.related(9, 7, 11), true);
    }

    private static void relationsOfProgramBefore() {
        for (int relation = 0; relation < 12; relation++) {
            OrderAxioms x = withThreads(1);
            x.event(0, WRITE, 0, 1);
            x.event(0, READ, 0, 0);
            x.event(0, FENCE, 0, 0);
            x.event(0, READ, 0, 0);
            x.event(0, WRITE, 0, 1);
            x.depends(1, 3);
            x.depends(1, 4);
            x.look(2);
            x.clear();
            addThreads(x, 4);
            for (int i = 0; i < 4; i++) {
                x.event(i, i % 3, i, 1);
            }
            x.event(3, FENCE, 0, 0);
            x.look(0);
            Checks.due("14: nothing is left of the program before, " + relation,
                pairsOf(x, relation, 5), relation == 0 ? "3-4" : "");
        }
    }

    private static void ringWithout() {
        OrderAxioms x = storeBuffering();
        Checks.due("15: before a look", x.ring(), 0);
        Checks.throwing("16: before a look", INDEX, () -> x.ringAt(0));
        x.make(0, 0, x.make(4, 0, 0));
        x.look(0);
        Checks.due("15: rings of no rule do not count", x.ring(), 0);
        Checks.throwing("16: nor here", INDEX, () -> x.ringAt(0));
        x.given(2);
        x.look(0);
        Checks.due("15: a ring", x.ring(), 4);
        x.look(1);
        Checks.due("15: without a broken rule", x.ring(), 0);
        Checks.throwing("16: the one before is gone", INDEX, () -> x.ringAt(0));
    }

    private static void ringOfOneAlone() {
        OrderAxioms x = withThreads(1);
        addEvents(x, 3, 0, FENCE, 0);
        int back = x.make(4, 0, 0);
        x.rule(x.make(3, 0, back));
        Checks.due("15: one alone also", x.look(0), 0);
        Checks.due("15: its length", x.ring(), 1);
        Checks.due("16: the lowest", ringOf(x), "0");
        Checks.throwing("16: no second one", INDEX, () -> x.ringAt(1));
        Checks.due("15: it forbids", x.run(), 0);
        x.given(0);
        back = x.make(4, 0, 0);
        int far = x.make(3, 0, 0);
        x.rule(x.make(3, x.make(4, far, 0), far));
        Checks.due("15: the last event alone", x.look(0), 0);
        Checks.due("16: it", ringOf(x), "2");
    }

    private static void ringOfOneAmongFew() {
        OrderAxioms x = withThreads(1);
        addEvents(x, 2, 0, FENCE, 0);
        x.rule(x.make(3, 0, x.make(4, 0, 0)));
        Checks.due("15: one of two", x.look(0), 0);
        Checks.due("16: the first of two", ringOf(x), "0");
        Checks.due("15: it forbids", x.run(), 0);
    }

    /** One event alone is in a ring, all others stand in long rows that end. */
    private static void ringOfOneAmongMany() {
        for (int first = 0; first < 2; first++) {
            OrderAxioms x = withThreads(2);
            addEvents(x, first == 0 ? 10 : 0, 0, FENCE, 0);
            int read = x.event(1, READ, 0, 0);
            x.event(1, WRITE, 1, 1);
            addEvents(x, first == 0 ? 0 : 10, 0, FENCE, 0);
            int back = x.make(4, x.make(2, 0, x.make(3, 0, 0)), 0);
            int alone = x.make(3, 9, x.make(4, 9, 0));
            x.rule(0);
            x.rule(back);
            Checks.due("15: rows that end", x.look(0), -1);
            x.rule(x.make(0, back, alone));
            Checks.due("15: and one alone", x.look(0), 2);
            Checks.due("16: it", ringOf(x), "" + read);
            x.given(0);
            x.rule(x.make(0, 0, x.make(3, 9, x.make(4, 9, 0))));
            Checks.due("15: with rows the other way", x.look(0), 0);
            Checks.due("16: it", ringOf(x), "" + read);
        }
    }

    private static void ringOfTwelve() {
        OrderAxioms x = withThreads(1);
        x.event(0, READ, 0, 0);
        addEvents(x, 10, 0, FENCE, 0);
        x.event(0, WRITE, 0, 1);
        x.rule(x.make(0, x.make(2, 0, x.make(3, 0, 0)), 1));
        Checks.due("15: open", x.look(0), -1);
        Checks.due("15: closed", x.look(1), 0);
        Checks.due("15: all events", x.ring(), 12);
        Checks.due("16: all events", ringOf(x), "0 1 2 3 4 5 6 7 8 9 10 11");
        Checks.throwing("16: no more", INDEX, () -> x.ringAt(12));
        Checks.due("15: one of two is allowed", x.run() + " " + x.count(7), "1 1");
        x.given(0);
        x.rule(x.make(4, x.make(0, x.make(2, 0, x.make(3, 0, 0)), 1), 0));
        x.look(1);
        Checks.due("16: the other way round", ringOf(x), "0 11 10 9 8 7 6 5 4 3 2 1");
    }

    private static void ringOfFirstBrokenRule() {
        OrderAxioms x = storeBuffering();
        x.given(2);
        int back = x.make(4, 0, 0);
        x.rule(x.make(3, 0, back));
        x.look(0);
        Checks.due("15: of the rule that it breaks first", ringOf(x), "0 1 2 3");
        x.look(1);
        Checks.due("15: of the second, where the first holds", ringOf(x), "0");
    }

    private static void ringIsShortest() {
        OrderAxioms x = withThreads(2);
        addEvents(x, 4, 0, WRITE, 0);
        x.event(1, WRITE, 1, 1);
        x.event(1, READ, 1, 0);
        x.rule(x.make(0, x.make(2, 0, x.make(3, 0, 0)), x.make(4, 2, 0)));
        // Place 0 in order: each write is with the next one, and back with all before it.
        x.look(0);
        Checks.due("15: two of four", ringOf(x), "0 1");
        // The order is 3, 2, 1, 0: the turned one goes as the program does.
        Checks.due("15: none", x.look(23), -1);
        // The order is 3, 0, 1, 2.
        x.look(18);
        Checks.due("15: still two", ringOf(x), "0 1");
        OrderAxioms y = withThreads(3);
        y.event(0, WRITE, 0, 1);
        y.event(0, READ, 1, 0);
        y.event(1, WRITE, 1, 1);
        y.event(1, READ, 0, 0);
        y.event(2, READ, 0, 0);
        y.event(2, READ, 0, 0);
        y.given(2);
        // Read 4 reads write 0, all others the beginning: a ring of four and one of three.
        y.look(2);
        Checks.due("15: three, not four", y.ring(), 3);
        Checks.due("16: the three", ringOf(y), "0 4 5");
        y.look(0);
        Checks.due("15: four without it", ringOf(y), "0 1 2 3");
    }

    private static void ringBeginsLowest() {
        OrderAxioms x = withThreads(1);
        addEvents(x, 3, 0, FENCE, 0);
        addEvents(x, 2, 0, READ, 0);
        addEvents(x, 2, 0, WRITE, 0);
        // Reads and the writes behind them, both ways.
        x.rule(x.make(0, 9, x.make(4, 9, 0)));
        x.look(0);
        Checks.due("16: the lowest that is in one", ringOf(x), "3 5");
        OrderAxioms y = withThreads(2);
        y.event(0, READ, 0, 0);
        y.event(0, WRITE, 1, 1);
        y.event(1, READ, 1, 0);
        y.event(1, WRITE, 0, 1);
        y.event(1, READ, 2, 0);
        y.event(1, WRITE, 2, 1);
        y.given(2);
        y.look(7);
        Checks.due("16: not of a longer one", ringOf(y), "4 5");
    }

    private static void ringGoesOnLowest() {
        OrderAxioms x = withThreads(3);
        x.event(0, READ, 0, 0);
        x.event(0, WRITE, 1, 1);
        x.event(1, READ, 1, 0);
        x.event(1, WRITE, 0, 1);
        x.event(2, READ, 1, 0);
        x.event(2, WRITE, 0, 2);
        x.given(2);
        // Reads 2 and 4 read 1; read 0 reads 5, and 5 comes behind 3.
        x.look(22);
        Checks.due("16: the lowest can not close it in time", ringOf(x), "0 1 4 5");
        // Read 0 reads 3, and 3 comes behind 5: both ways lead there, the lower in time.
        x.look(15);
        Checks.due("16: the lowest can", ringOf(x), "0 1 2 3");
    }

    private static void ringAtNoNumber() {
        OrderAxioms x = storeBuffering();
        x.given(2);
        x.look(0);
        for (int wild : new int[] {-1, 4, 5, 11, 12, Integer.MIN_VALUE, Integer.MAX_VALUE}) {
            Checks.throwing("16: event " + wild, INDEX, () -> x.ringAt(wild));
        }
        Checks.due("16: the first", x.ringAt(0), 0);
        Checks.due("16: the last", x.ringAt(3), 3);
        x.look(3);
        for (int wild : new int[] {-1, 0, 3, 4}) {
            Checks.throwing("16: without " + wild, INDEX, () -> x.ringAt(wild));
        }
    }

    private static void ringStays() {
        OrderAxioms x = messagePassing();
        x.given(2);
        x.look(2);
        x.given(0);
        x.event(0, FENCE, 0, 0);
        x.run();
        x.clear();
        Checks.throwing("15: a refused look", INDEX, () -> x.look(1));
        Checks.due("15: it stays", ringOf(x), "0 1 2 3");
        x.look(0);
        Checks.due("15: until the next look", x.ring(), 0);
    }
}
