/**
 * The edges of what a run lists: promises 8 to 10 and 17, and what the document says of outcomes
 * and of the number of calls. Each method is for one sentence, or for one part of it.
 */
public final class ListingEdgesTest extends Programs {
    public static void main(String[] args) {
        runOfNothing();
        runWithoutReads();
        runWithoutRules();
        runThatAllowsNothing();
        runJustBelowTheLimit();
        runJustAboveTheLimit();
        runFarAboveTheLimit();
        refusedRunKeepsListed();
        refusedRunOfNewObject();
        runAgainReplaces();
        runAgainForgetsValues();
        runKeepsLookedAt();
        listedUnderTheRulesThen();
        outcomeOfNoNumber();
        outcomeOfNoRead();
        outcomeWithoutOutcomes();
        outcomesToldOnce();
        outcomesInOrder();
        outcomesOfReadsInOrder();
        outcomeOfLatestRun();
        witnessOfNoNumber();
        witnessOfNoWhat();
        witnessesAreAllowed();
        witnessNumbersAmongAll();
        witnessesOfLargestRun();
        countOfAnother();
        countsOfProgram();
        countsOfListing();
        countsOfRefusedCalls();
        lastOfManyCalls();
        Checks.end("ListingEdgesTest");
    }

    /** One thread that writes place 0 so many times, with values from 1, then reads it. */
    private static OrderAxioms writesAndReads(int writes, int reads) {
        OrderAxioms x = withThreads(1);
        addEvents(x, writes, 0, WRITE, 0);
        addEvents(x, reads, 0, READ, 0);
        return x;
    }

    /** 4! * 5^2 * 2^3 = 4800 executions: no program has from 4801 to 5039. */
    private static OrderAxioms largest() {
        OrderAxioms x = withThreads(1);
        addEvents(x, 4, 0, WRITE, 0);
        addEvents(x, 1, 0, WRITE, 1);
        addEvents(x, 2, 0, READ, 0);
        addEvents(x, 3, 0, READ, 1);
        return x;
    }

    private static void runOfNothing() {
        OrderAxioms x = new OrderAxioms();
        Checks.due("8: no threads", x.run(), 1);
        Checks.due("8: one execution", countsOf(x), "0 0 0 12 0 1 1 1");
        addThreads(x, 4);
        Checks.due("8: no events", x.run(), 1);
        for (int kind = 0; kind < 6; kind++) {
            x.given(kind);
            Checks.due("8: no rule forbids it", x.run(), 1);
        }
        Checks.due("8: it is allowed once", witnessesOf(x), "[1 of 0]");
        Checks.throwing("8: nothing is read", INDEX, () -> x.outcome(0, 0));
    }

    private static void runWithoutReads() {
        OrderAxioms x = withThreads(2);
        addEvents(x, 3, 0, FENCE, 0);
        Checks.due("8: fences alone", x.run() + " " + x.count(6), "1 1");
        addEvents(x, 3, 1, WRITE, 0);
        addEvents(x, 2, 0, WRITE, 3);
        Checks.due("8: fences and writes", x.run() + " " + x.count(6), "1 12");
        Checks.due("8: all have it", witnessesOf(x), "[12 of 0]");
        x.given(2);
        Checks.due("8: in one order", x.run() + " " + x.count(6), "1 12");
        Checks.due("8: one has it", witnessesOf(x), "[1 of 0]");
        OrderAxioms y = withThreads(1);
        addEvents(y, 12, 0, READ, 0);
        Checks.due("8: reads of nothing written", y.run() + " " + y.count(6), "1 1");
        Checks.due("8: read the beginning", y.outcome(0, 11), 0);
    }

    private static void runWithoutRules() {
        OrderAxioms x = writesAndReads(3, 2);
        Checks.due("8: all outcomes", x.run(), 16);
        Checks.due("8: all executions", x.count(6), 96);
        Checks.due("8: all are allowed", x.count(7), 96);
    }

    private static void runThatAllowsNothing() {
        OrderAxioms x = storeBuffering();
        x.rule(x.make(0, 0, x.make(4, 0, 0)));
        Checks.due("8: none", x.run(), 0);
        Checks.due("8: of four", countsOf(x), "2 4 2 14 1 0 4 0");
        Checks.throwing("9: no outcome", INDEX, () -> x.outcome(0, 0));
        Checks.throwing("10: no witness", INDEX, () -> x.witness(0, 0));
        Checks.throwing("10: no first one", INDEX, () -> x.witness(0, 1));
    }

    private static void runJustBelowTheLimit() {
        OrderAxioms x = largest();
        Checks.due("8: 4800 executions", x.run(), 200);
        Checks.due("8: are listed", x.count(6) + " " + x.count(7), "4800 4800");
        OrderAxioms y = writesAndReads(2, 7);
        Checks.due("8: 4374 executions", y.run(), 2187);
        Checks.due("8: are listed too", y.count(6) + " " + y.count(7), "4374 4374");
        OrderAxioms z = writesAndReads(1, 11);
        Checks.due("8: 2048 outcomes", z.run(), 2048);
        Checks.due("8: of 2048", z.count(6) + " " + z.count(7), "2048 2048");
    }

    private static void runJustAboveTheLimit() {
        OrderAxioms x = writesAndReads(6, 1);
        Checks.throwing("8: 5040 by orders and a source", UNSUPPORTED, () -> x.run());
        OrderAxioms y = writesAndReads(7, 0);
        Checks.throwing("8: 5040 by orders", UNSUPPORTED, () -> y.run());
        OrderAxioms z = withThreads(1);
        // 2 * 3^4 * 2^5 = 5184.
        addEvents(z, 2, 0, WRITE, 2);
        addEvents(z, 1, 0, WRITE, 3);
        addEvents(z, 4, 0, READ, 2);
        addEvents(z, 5, 0, READ, 3);
        Checks.throwing("8: 5184", UNSUPPORTED, () -> z.run());
        OrderAxioms w = withThreads(1);
        // 4! * 4! * 2! * 5 = 5760: no place is above the limit alone.
        addEvents(w, 4, 0, WRITE, 0);
        addEvents(w, 4, 0, WRITE, 1);
        addEvents(w, 2, 0, WRITE, 2);
        Checks.due("8: 1152", w.run() + " " + w.count(6), "1 1152");
        w.event(0, READ, 1, 0);
        Checks.throwing("8: 5760", UNSUPPORTED, () -> w.run());
        Checks.due("8: still 1152", w.count(6), 1152);
    }

    private static void runFarAboveTheLimit() {
        for (int writes = 7; writes <= 12; writes++) {
            OrderAxioms x = writesAndReads(writes, 12 - writes);
            Checks.throwing("8: far too many", UNSUPPORTED, () -> x.run());
            Checks.due("8: none listed", countsOf(x), "1 12 " + (12 - writes) + " 12 0 0 0 0");
        }
        OrderAxioms y = withThreads(1);
        for (int place = 0; place < 4; place++) {
            addEvents(y, 3, 0, WRITE, place);
        }
        Checks.due("8: 1296 of four places", y.run() + " " + y.count(6), "1 1296");
        OrderAxioms z = withThreads(1);
        addEvents(z, 3, 0, WRITE, 3);
        addEvents(z, 9, 0, READ, 3);
        Checks.throwing("8: of the last place", UNSUPPORTED, () -> z.run());
    }

    private static void refusedRunKeepsListed() {
        OrderAxioms x = writesAndReads(2, 1);
        x.given(1);
        x.run();
        x.look(4);
        addEvents(x, 7, 0, READ, 0);
        String before = stateOf(x, 1, 1);
        Checks.due("8: before", before, "1 10 8 15 1 1 6 1 / [2] / [1 of 4] / 1 / ");
        Checks.throwing("8: too many", UNSUPPORTED, () -> x.run());
        Checks.throwing("8: once more", UNSUPPORTED, () -> x.run());
        Checks.due("8: what was listed stays", stateOf(x, 1, 1), before);
        Checks.throwing("9: with its one read", INDEX, () -> x.outcome(0, 1));
        x.clear();
        Checks.due("8: a smaller program", x.run(), 1);
        Checks.due("8: is listed", x.count(6), 1);
    }

    private static void refusedRunOfNewObject() {
        OrderAxioms x = writesAndReads(8, 0);
        Checks.throwing("8: too many", UNSUPPORTED, () -> x.run());
        Checks.due("8: nothing was listed", countsOf(x), "1 8 0 12 0 0 0 0");
        Checks.throwing("8: no outcome", INDEX, () -> x.outcome(0, 0));
        Checks.throwing("8: no witness", INDEX, () -> x.witness(0, 0));
    }

    private static void runAgainReplaces() {
        OrderAxioms x = writesAndReads(3, 2);
        Checks.due("8: many", x.run(), 16);
        x.clear();
        x.thread();
        x.event(0, READ, 0, 0);
        Checks.due("8: then few", x.run(), 1);
        Checks.due("8: are all there is", listedOf(x, 1) + witnessesOf(x), "[0][1 of 0]");
        Checks.throwing("9: not the second outcome", INDEX, () -> x.outcome(1, 0));
        Checks.throwing("9: not the second read", INDEX, () -> x.outcome(0, 1));
        Checks.throwing("10: not its witness", INDEX, () -> x.witness(1, 0));
        Checks.due("8: counts", countsOf(x), "1 1 1 12 0 1 1 1");
        for (int i = 0; i < 3; i++) {
            Checks.due("8: the same each time", x.run(), 1);
            Checks.due("8: not one more", witnessesOf(x), "[1 of 0]");
        }
    }

    private static void runAgainForgetsValues() {
        OrderAxioms x = withThreads(1);
        for (int place = 0; place < 4; place++) {
            x.event(0, WRITE, place, -7 - place);
        }
        x.event(0, READ, 0, 0);
        x.event(0, READ, 3, 0);
        Checks.due("8: low values", outcomesOf(x), "[-7 -10][-7 0][0 -10][0 0]");
        x.clear();
        x.thread();
        for (int place = 0; place < 4; place++) {
            x.event(0, READ, place, 0);
        }
        Checks.due("8: then the beginning alone", outcomesOf(x), "[0 0 0 0]");
        x.event(0, WRITE, 1, 3);
        Checks.due("8: then another value", outcomesOf(x), "[0 0 0 0][0 3 0 0]");
    }

    private static void runKeepsLookedAt() {
        OrderAxioms x = storeBuffering();
        x.given(2);
        x.look(0);
        String[] before = {sourcesOf(x, 2), ringOf(x), pairsOf(x, 14, 4), orderOf(x, 1, 1)};
        x.run();
        x.event(0, WRITE, 1, 3);
        x.run();
        Checks.due("8: sources", sourcesOf(x, 2), before[0]);
        Checks.due("8: the ring", ringOf(x), before[1]);
        Checks.due("8: relations", pairsOf(x, 14, 4), before[2]);
        Checks.due("8: the order", orderOf(x, 1, 1), before[3]);
        Checks.throwing("8: and no more", INDEX, () -> x.order(1, 1));
    }

    private static void listedUnderTheRulesThen() {
        OrderAxioms x = storeBuffering();
        x.run();
        x.given(2);
        x.rule(x.make(0, 0, x.make(4, 0, 0)));
        Checks.due("8: rules that came later", listedOf(x, 2), "[0 0][0 1][1 0][1 1]");
        Checks.due("8: count for the next run", x.run(), 0);
        x.given(0);
        Checks.due("8: rules that went later too", x.count(5) + " " + x.count(7), "0 0");
        Checks.due("8: as they are now", x.run(), 4);
    }

    private static void outcomeOfNoNumber() {
        OrderAxioms x = messagePassing();
        x.given(2);
        x.run();
        for (int i = 0; i < 2; i++) {
            int read = i;
            Checks.due("9: the first", x.outcome(0, i), 0);
            Checks.due("9: the last", x.outcome(2, i), 1);
            for (int wild : new int[] {-1, 3, 4, 5000, Integer.MIN_VALUE, Integer.MAX_VALUE}) {
                Checks.throwing("9: outcome " + wild, INDEX, () -> x.outcome(wild, read));
            }
        }
    }

    private static void outcomeOfNoRead() {
        OrderAxioms x = messagePassing();
        x.given(2);
        x.run();
        for (int k = 0; k < 3; k++) {
            int asked = k;
            for (int wild : new int[] {-1, 2, 3, 12, Integer.MIN_VALUE, Integer.MAX_VALUE}) {
                Checks.throwing("9: read " + wild, INDEX, () -> x.outcome(asked, wild));
            }
        }
        Checks.throwing("9: neither", INDEX, () -> x.outcome(3, 2));
        OrderAxioms y = writesAndReads(1, 11);
        y.run();
        Checks.due("9: read 10", y.outcome(2047, 10), 1);
        Checks.throwing("9: read 11", INDEX, () -> y.outcome(2047, 11));
        Checks.throwing("9: outcome 2048", INDEX, () -> y.outcome(2048, 0));
    }

    private static void outcomeWithoutOutcomes() {
        OrderAxioms x = storeBuffering();
        Checks.throwing("9: before a run", INDEX, () -> x.outcome(0, 0));
        Checks.throwing("10: before a run", INDEX, () -> x.witness(0, 0));
        x.look(0);
        Checks.throwing("9: a look lists none", INDEX, () -> x.outcome(0, 0));
        OrderAxioms y = withThreads(1);
        addEvents(y, 2, 0, WRITE, 0);
        y.run();
        Checks.throwing("9: without reads", INDEX, () -> y.outcome(0, 0));
        Checks.due("10: it has witnesses", witnessesOf(y), "[2 of 0]");
    }

    private static void outcomesToldOnce() {
        OrderAxioms x = withThreads(2);
        x.event(0, WRITE, 0, 4);
        x.event(0, WRITE, 0, 4);
        x.event(1, WRITE, 0, 0);
        x.event(1, READ, 0, 0);
        Checks.due("9: each once", outcomesOf(x), "[0][4]");
        Checks.due("10: with all that have it", witnessesOf(x), "[12 of 0][12 of 6]");
        x.event(1, READ, 0, 0);
        Checks.due("9: of two reads", outcomesOf(x), "[0 0][0 4][4 0][4 4]");
        Checks.due("10: with all of them", witnessesOf(x),
            "[24 of 0][24 of 6][24 of 24][24 of 30]");
    }

    private static void outcomesInOrder() {
        OrderAxioms x = withThreads(1);
        int[] values = {Integer.MAX_VALUE, Integer.MIN_VALUE, -1};
        for (int value : values) {
            x.event(0, WRITE, 0, value);
        }
        x.event(0, WRITE, 1, -5);
        x.event(0, READ, 0, 0);
        x.event(0, READ, 1, 0);
        Checks.due("9: as numbers, the first one first", outcomesOf(x),
            "[-2147483648 -5][-2147483648 0][-1 -5][-1 0][0 -5][0 0]"
                + "[2147483647 -5][2147483647 0]");
        OrderAxioms y = withThreads(1);
        y.event(0, READ, 1, 0);
        y.event(0, READ, 0, 0);
        y.event(0, WRITE, 0, 100);
        y.event(0, WRITE, 1, 9);
        y.event(0, WRITE, 0, 20);
        Checks.due("9: not by events, not as texts", outcomesOf(y),
            "[0 0][0 20][0 100][9 0][9 20][9 100]");
    }

    private static void outcomesOfReadsInOrder() {
        OrderAxioms x = withThreads(2);
        x.event(1, READ, 3, 0);
        x.event(0, WRITE, 2, 5);
        x.event(0, FENCE, 0, 0);
        x.event(0, READ, 2, 0);
        x.event(1, READ, 3, 0);
        x.event(1, WRITE, 3, 7);
        x.given(2);
        // Read 3 must see the write before it, reads 0 and 4 can not see the one behind them.
        Checks.due("9: in the order of their numbers", outcomesOf(x), "[0 5 0]");
    }

    private static void outcomeOfLatestRun() {
        OrderAxioms x = messagePassing();
        x.run();
        x.given(2);
        x.event(1, READ, 0, 0);
        x.look(0);
        Checks.due("9: the latest run", listedOf(x, 2), "[0 0][0 1][1 0][1 1]");
        Checks.throwing("9: not the read that came later", INDEX, () -> x.outcome(0, 2));
        x.run();
        Checks.due("9: then the next one", listedOf(x, 3), "[0 0 0][0 0 1][0 1 1][1 1 1]");
    }

    private static void witnessOfNoNumber() {
        OrderAxioms x = messagePassing();
        x.given(2);
        x.run();
        for (int wild : new int[] {-1, 3, 4, 5000, Integer.MIN_VALUE, Integer.MAX_VALUE}) {
            Checks.throwing("10: how many of " + wild, INDEX, () -> x.witness(wild, 0));
            Checks.throwing("10: the first of " + wild, INDEX, () -> x.witness(wild, 1));
        }
        Checks.due("10: of the others", witnessesOf(x), "[1 of 0][1 of 1][1 of 3]");
    }

    private static void witnessOfNoWhat() {
        OrderAxioms x = messagePassing();
        x.run();
        for (int wild : new int[] {-1, 2, 3, Integer.MIN_VALUE, Integer.MAX_VALUE}) {
            for (int k = 0; k < 4; k++) {
                int asked = k;
                Checks.throwing("10: what " + wild, INDEX, () -> x.witness(asked, wild));
            }
            Checks.throwing("10: neither", INDEX, () -> x.witness(4, wild));
        }
    }

    private static void witnessesAreAllowed() {
        for (int kind = 0; kind < 6; kind++) {
            OrderAxioms x = withThreads(2);
            addEvents(x, 2, 0, WRITE, 0);
            addEvents(x, 2, 1, READ, 0);
            x.given(kind);
            int outcomes = x.run();
            int total = 0;
            for (int k = 0; k < outcomes; k++) {
                total += x.witness(k, 0);
                Checks.due("10: its first one is allowed", x.look(x.witness(k, 1)), -1);
                for (int i = 0; i < 2; i++) {
                    int from = x.source(i);
                    Checks.due("10: it has the outcome", x.outcome(k, i), from + 1);
                }
            }
            Checks.due("10: together all allowed ones", total, x.count(7));
        }
    }

    private static void witnessNumbersAmongAll() {
        OrderAxioms x = withThreads(1);
        addEvents(x, 3, 0, WRITE, 0);
        // The only rule turns the order of writes round: the last of six orders is left.
        x.rule(x.make(0, 2, x.make(4, 11, 0)));
        Checks.due("10: one is allowed", x.run() + " " + x.count(7), "1 1");
        Checks.due("10: the number among all", witnessesOf(x), "[1 of 5]");
        x.event(0, READ, 0, 0);
        Checks.due("10: of each source", outcomesOf(x), "[0][1][2][3]");
        Checks.due("10: the last order each time", witnessesOf(x),
            "[1 of 5][1 of 11][1 of 17][1 of 23]");
    }

    private static void witnessesOfLargestRun() {
        OrderAxioms x = largest();
        x.run();
        Checks.due("10: each outcome has all orders", x.witness(0, 0), 24);
        Checks.due("10: the first", x.witness(0, 1), 0);
        Checks.due("10: of the last outcome", x.witness(199, 0), 24);
        Checks.due("10: the first of it", x.witness(199, 1), 4776);
        Checks.throwing("10: no more", INDEX, () -> x.witness(200, 0));
        Checks.due("9: the last outcome", x.outcome(199, 0) + " " + x.outcome(199, 1) + " "
            + x.outcome(199, 2) + " " + x.outcome(199, 3) + " " + x.outcome(199, 4), "4 4 1 1 1");
        OrderAxioms y = withThreads(1);
        for (int i = 0; i < 6; i++) {
            y.event(0, WRITE, 0, 0);
        }
        y.event(0, WRITE, 1, 0);
        addEvents(y, 2, 0, READ, 1);
        Checks.due("10: 2880 have one outcome", y.run() + witnessesOf(y), "1[2880 of 0]");
    }

    private static void countOfAnother() {
        OrderAxioms x = storeBuffering();
        for (int i = 0; i < 2; i++) {
            for (int wild : new int[] {-1, -2, 8, 9, Integer.MIN_VALUE, Integer.MAX_VALUE}) {
                Checks.due("17: NONE for " + wild, x.count(wild), OrderAxioms.NONE);
            }
            x.run();
            x.look(0);
        }
    }

    private static void countsOfProgram() {
        OrderAxioms x = new OrderAxioms();
        addThreads(x, 3);
        Checks.due("17: threads", countsOf(x), "3 0 0 12 0 0 0 0");
        x.event(0, WRITE, 0, 1);
        x.event(0, FENCE, 0, 1);
        Checks.due("17: events", countsOf(x), "3 2 0 12 0 0 0 0");
        x.event(2, READ, 0, 1);
        Checks.due("17: reads", countsOf(x), "3 3 1 12 0 0 0 0");
        x.make(0, 0, 0);
        Checks.due("17: relations", countsOf(x), "3 3 1 13 0 0 0 0");
        x.rule(3);
        x.rule(3);
        Checks.due("17: rules", countsOf(x), "3 3 1 13 2 0 0 0");
        x.event(2, READ, 1, 0);
        x.depends(2, 3);
        Checks.due("17: dependences are not counted", countsOf(x), "3 4 2 13 2 0 0 0");
    }

    private static void countsOfListing() {
        OrderAxioms x = withThreads(2);
        addEvents(x, 2, 0, WRITE, 0);
        x.event(1, READ, 0, 0);
        x.given(1);
        x.run();
        Checks.due("17: outcomes, executions, allowed", countsOf(x), "2 3 1 15 1 3 6 3");
        x.given(0);
        x.event(1, READ, 1, 0);
        x.look(5);
        Checks.due("17: of the latest run", countsOf(x), "2 4 2 12 0 3 6 3");
        x.run();
        Checks.due("17: more are allowed than outcomes", countsOf(x), "2 4 2 12 0 3 6 6");
    }

    private static void countsOfRefusedCalls() {
        OrderAxioms x = withThreads(4);
        addEvents(x, 12, 0, WRITE, 0);
        for (int i = 12; i < 40; i++) {
            x.make(0, 0, 0);
        }
        for (int i = 0; i < 8; i++) {
            x.rule(0);
        }
        Checks.throwing("17: thread", UNSUPPORTED, () -> x.thread());
        Checks.throwing("17: event", UNSUPPORTED, () -> x.event(0, READ, 0, 0));
        Checks.throwing("17: make", UNSUPPORTED, () -> x.make(0, 0, 0));
        Checks.throwing("17: rule", UNSUPPORTED, () -> x.rule(0));
        Checks.throwing("17: run", UNSUPPORTED, () -> x.run());
        Checks.throwing("17: look", UNSUPPORTED, () -> x.look(0));
        Checks.throwing("17: given", ARGUMENT, () -> x.given(6));
        Checks.due("17: all is full", countsOf(x), "4 12 0 40 8 0 0 0");
    }

    /** The dearest run, again and again, up to the last call that is promised. */
    private static void lastOfManyCalls() {
        OrderAxioms x = largest();
        x.given(4);
        for (int calls = 12; calls < 508; calls += 2) {
            Checks.due("calls: run after " + calls, x.run(), 1);
            Checks.due("calls: look after " + calls, x.look(4799 - calls), 0);
        }
        Checks.due("calls: the last outcome", x.outcome(0, 0), 4);
        Checks.due("calls: its witness", x.witness(0, 1), 4776);
        Checks.due("calls: allowed", x.count(7), 1);
        Checks.due("calls: call 512", x.count(6), 4800);
    }
}
