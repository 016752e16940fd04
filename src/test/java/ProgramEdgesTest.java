/**
 * The edges of what builds a program: promises 1 to 4 and 18. Each method is for one sentence of
 * the document, or for one part of a sentence that names several edges.
 */
public final class ProgramEdgesTest extends Programs {
    public static void main(String[] args) {
        newHasNoThreads();
        newHasGivenRelationsAlone();
        newHasNoRules();
        newHasNothingListed();
        newHasNothingLookedAt();
        objectsShareNothing();
        threadNumbers();
        fifthThread();
        eventNumbers();
        fencePlaceAndValue();
        readValue();
        writeValues();
        firstAndLastPlace();
        noSuchThread();
        noSuchKind();
        noSuchPlace();
        thirteenthEvent();
        wrongThirteenthEvent();
        refusedEventChangesNothing();
        dependsOnce();
        dependsOfFirstAndLast();
        dependsOnNoEvent();
        dependsOnNoRead();
        dependsNotBefore();
        dependsOfFence();
        refusedDependsChangesNothing();
        clearCounts();
        clearedProgramIsGone();
        clearedProgramCanBeFilledAgain();
        clearKeepsRelationsAndRules();
        clearKeepsListed();
        clearKeepsLookedAt();
        clearedProgramIsListedAnew();
        Checks.end("ProgramEdgesTest");
    }

    private static int depends(OrderAxioms x, int a, int b) {
        return x.depends(a, b) ? 1 : 0;
    }

    private static void newHasNoThreads() {
        OrderAxioms x = new OrderAxioms();
        Checks.due("1: no threads", x.count(0), 0);
        for (int kind = READ; kind <= FENCE; kind++) {
            int asked = kind;
            Checks.throwing("1: no thread 0", ARGUMENT, () -> x.event(0, asked, 0, 0));
        }
        Checks.due("1: no events", x.count(1), 0);
        Checks.due("1: no reads", x.count(2), 0);
        Checks.throwing("1: no event 0", ARGUMENT, () -> depends(x, 0, 0));
        Checks.due("1: the first thread", x.thread(), 0);
    }

    private static void newHasGivenRelationsAlone() {
        OrderAxioms x = new OrderAxioms();
        Checks.due("1: relations", x.count(3), 12);
        Checks.throwing("1: no relation 12", ARGUMENT, () -> x.rule(12));
        Checks.due("1: relation 11", x.rule(11), 1);
        Checks.due("1: the first one made", x.make(0, 0, 11), 12);
    }

    private static void newHasNoRules() {
        OrderAxioms x = new OrderAxioms();
        Checks.due("1: rules", x.count(4), 0);
        x.thread();
        addEvents(x, 2, 0, FENCE, 0);
        x.make(0, 0, x.make(4, 0, 0));
        Checks.due("1: rings break nothing without rules", x.look(0), -1);
        Checks.due("1: nor forbid anything", x.run(), 1);
        Checks.due("1: the first rule", x.rule(13), 1);
        Checks.due("1: then they do", x.look(0), 0);
    }

    private static void newHasNothingListed() {
        OrderAxioms x = new OrderAxioms();
        Checks.due("1: counts", countsOf(x), "0 0 0 12 0 0 0 0");
        Checks.throwing("1: no outcome", INDEX, () -> x.outcome(0, 0));
        Checks.throwing("1: no witness", INDEX, () -> x.witness(0, 0));
        Checks.throwing("1: no first witness", INDEX, () -> x.witness(0, 1));
    }

    private static void newHasNothingLookedAt() {
        OrderAxioms x = storeBuffering();
        x.run();
        Checks.throwing("1: no source", INDEX, () -> x.source(0));
        for (int place = 0; place < 4; place++) {
            int asked = place;
            Checks.throwing("1: no order", INDEX, () -> x.order(asked, 0));
        }
        Checks.throwing("1: no relation", INDEX, () -> x.related(0, 0, 1) ? 1 : 0);
        Checks.due("1: no ring", x.ring(), 0);
        Checks.throwing("1: no event of a ring", INDEX, () -> x.ringAt(0));
    }

    private static void objectsShareNothing() {
        OrderAxioms x = storeBuffering();
        x.given(2);
        x.run();
        x.look(0);
        OrderAxioms y = new OrderAxioms();
        Checks.due("1: a new one beside one in use", countsOf(y), "0 0 0 12 0 0 0 0");
        Checks.due("1: its ring", y.ring(), 0);
        y.thread();
        y.event(0, WRITE, 1, 7);
        y.run();
        y.look(0);
        y.clear();
        Checks.due("1: the one in use", stateOf(x, 2, 2), "2 4 2 15 1 3 4 3 / [0 1][1 0][1 1] / "
            + "[1 of 1][1 of 2][1 of 3] / -1 -1 / 0 1 2 3");
    }

    private static void threadNumbers() {
        OrderAxioms x = new OrderAxioms();
        for (int i = 0; i < 4; i++) {
            Checks.due("2: its number", x.thread(), i);
            Checks.due("2: a thread more", x.count(0), i + 1);
            Checks.due("2: it can be used", x.event(i, FENCE, 0, 0), i);
        }
    }

    private static void fifthThread() {
        OrderAxioms x = withThreads(4);
        for (int i = 0; i < 3; i++) {
            Checks.throwing("2: when there are four", UNSUPPORTED, () -> x.thread());
            Checks.due("2: there are still four", x.count(0), 4);
        }
        Checks.throwing("2: there is no fifth", ARGUMENT, () -> x.event(4, FENCE, 0, 0));
        Checks.due("2: there is a fourth", x.event(3, FENCE, 0, 0), 0);
        Checks.throwing("2: also with events", UNSUPPORTED, () -> x.thread());
        x.clear();
        for (int i = 0; i < 4; i++) {
            Checks.due("2: four again after clear", x.thread(), i);
        }
        Checks.throwing("2: not five", UNSUPPORTED, () -> x.thread());
    }

    private static void eventNumbers() {
        OrderAxioms x = withThreads(4);
        int reads = 0;
        for (int i = 0; i < 12; i++) {
            int kind = i % 3;
            Checks.due("3: numbered as they come", x.event(3 - i % 4, kind, i % 4, i), i);
            reads += kind == READ ? 1 : 0;
            Checks.due("3: an event more", x.count(1), i + 1);
            Checks.due("3: reads among them", x.count(2), reads);
        }
    }

    private static void fencePlaceAndValue() {
        int[] wild = {0, 3, 4, -1, Integer.MIN_VALUE, Integer.MAX_VALUE};
        for (int place : wild) {
            for (int value : wild) {
                OrderAxioms x = withThreads(1);
                x.event(0, WRITE, 0, 1);
                Checks.due("3: a fence at " + place, x.event(0, FENCE, place, value), 1);
                x.event(0, FENCE, place, value);
                x.event(0, READ, 0, 0);
                Checks.due("3: it is no write, no read", outcomesOf(x), "[0][1]");
                x.look(0);
                Checks.due("3: it is of no place", pairsOf(x, 5, 4), "0-3");
                Checks.throwing("3: of no order", INDEX, () -> x.order(0, 1));
            }
        }
    }

    private static void readValue() {
        for (int value : new int[] {0, 1, 9, -1, Integer.MIN_VALUE, Integer.MAX_VALUE}) {
            OrderAxioms x = withThreads(1);
            x.event(0, WRITE, 2, 5);
            x.event(0, READ, 2, value);
            Checks.due("3: the value of a read does not matter", outcomesOf(x), "[0][5]");
            Checks.due("3: for its witnesses neither", witnessesOf(x), "[1 of 0][1 of 1]");
        }
    }

    private static void writeValues() {
        OrderAxioms x = withThreads(1);
        x.event(0, WRITE, 0, Integer.MAX_VALUE);
        x.event(0, WRITE, 0, Integer.MIN_VALUE);
        x.event(0, WRITE, 0, -1);
        x.event(0, READ, 0, 0);
        Checks.due("3: any value can be written", outcomesOf(x),
            "[-2147483648][-1][0][2147483647]");
    }

    private static void firstAndLastPlace() {
        OrderAxioms x = withThreads(1);
        for (int place = 0; place < 4; place++) {
            Checks.due("3: a write to " + place, x.event(0, WRITE, place, 10 + place), place);
        }
        for (int place = 3; place >= 0; place--) {
            Checks.due("3: a read of " + place, x.event(0, READ, place, 0), 7 - place);
        }
        x.run();
        Checks.due("3: executions", x.count(6), 16);
        for (int i = 0; i < 4; i++) {
            Checks.due("3: the beginning", x.outcome(0, i), 0);
            Checks.due("3: its own place alone", x.outcome(15, i), 13 - i);
        }
    }

    private static void noSuchThread() {
        for (int threads = 0; threads <= 4; threads++) {
            OrderAxioms x = withThreads(threads);
            int next = threads;
            for (int kind = READ; kind <= FENCE; kind++) {
                int asked = kind;
                Checks.throwing("3: thread " + next, ARGUMENT, () -> x.event(next, asked, 0, 0));
                for (int wild : WILD) {
                    Checks.throwing("3: thread " + wild, ARGUMENT,
                        () -> x.event(wild, asked, 0, 0));
                }
            }
            Checks.due("3: no event came", x.count(1), 0);
            if (threads > 0) {
                Checks.due("3: the last thread", x.event(threads - 1, WRITE, 0, 0), 0);
                Checks.due("3: the first thread", x.event(0, READ, 0, 0), 1);
            }
        }
    }

    private static void noSuchKind() {
        OrderAxioms x = withThreads(1);
        for (int wild : new int[] {-1, 3, 4, Integer.MIN_VALUE, Integer.MAX_VALUE}) {
            Checks.throwing("3: kind " + wild, ARGUMENT, () -> x.event(0, wild, 0, 0));
            Checks.throwing("3: at no place", ARGUMENT, () -> x.event(0, wild, 4, 0));
            Checks.throwing("3: of no thread", ARGUMENT, () -> x.event(1, wild, 0, 0));
        }
        Checks.due("3: no event came", x.count(1), 0);
        for (int kind = READ; kind <= FENCE; kind++) {
            Checks.due("3: kind " + kind, x.event(0, kind, 0, 0), kind);
        }
    }

    private static void noSuchPlace() {
        OrderAxioms x = withThreads(1);
        for (int wild : new int[] {-1, 4, 5, Integer.MIN_VALUE, Integer.MAX_VALUE}) {
            Checks.throwing("3: a read of " + wild, ARGUMENT, () -> x.event(0, READ, wild, 0));
            Checks.throwing("3: a write to " + wild, ARGUMENT, () -> x.event(0, WRITE, wild, 0));
        }
        Checks.due("3: no event came", x.count(1), 0);
        Checks.due("3: no read came", x.count(2), 0);
    }

    private static void thirteenthEvent() {
        for (int filled = READ; filled <= FENCE; filled++) {
            OrderAxioms x = withThreads(4);
            for (int i = 0; i < 12; i++) {
                Checks.due("3: up to twelve", x.event(i % 4, filled, 0, 0), i);
            }
            for (int kind = READ; kind <= FENCE; kind++) {
                int asked = kind;
                Checks.throwing("3: when there are twelve", UNSUPPORTED,
                    () -> x.event(0, asked, 0, 0));
                Checks.throwing("3: in all threads", UNSUPPORTED, () -> x.event(3, asked, 3, 0));
            }
            Checks.due("3: there are still twelve", x.count(1), 12);
            Checks.due("3: with the reads among them", x.count(2), filled == READ ? 12 : 0);
        }
    }

    private static void wrongThirteenthEvent() {
        OrderAxioms x = withThreads(2);
        addEvents(x, 12, 0, FENCE, 0);
        Checks.throwing("3: the thread is told first", ARGUMENT, () -> x.event(2, READ, 0, 0));
        Checks.throwing("3: the kind is told first", ARGUMENT, () -> x.event(0, 3, 0, 0));
        Checks.throwing("3: the place is told first", ARGUMENT, () -> x.event(0, READ, 4, 0));
        Checks.throwing("3: of a write too", ARGUMENT, () -> x.event(0, WRITE, -1, 0));
        Checks.throwing("3: a fence has no wrong place", UNSUPPORTED,
            () -> x.event(1, FENCE, 4, 0));
    }

    private static void refusedEventChangesNothing() {
        OrderAxioms x = messagePassing();
        x.given(2);
        x.run();
        x.look(2);
        String before = stateOf(x, 2, 2);
        Checks.throwing("3: no thread", ARGUMENT, () -> x.event(2, WRITE, 0, 9));
        Checks.throwing("3: no kind", ARGUMENT, () -> x.event(0, 3, 0, 9));
        Checks.throwing("3: no place", ARGUMENT, () -> x.event(0, WRITE, 4, 9));
        Checks.throwing("3: no place to read", ARGUMENT, () -> x.event(0, READ, 4, 9));
        Checks.due("3: nothing has changed", stateOf(x, 2, 2), before);
        x.run();
        x.look(2);
        Checks.due("3: nor for a new run", stateOf(x, 2, 2), before);
        Checks.due("3: the next one", x.event(0, FENCE, 0, 0), 4);
    }

    private static void dependsOnce() {
        OrderAxioms x = withThreads(1);
        addEvents(x, 3, 0, READ, 0);
        Checks.due("4: it did not before", x.depends(0, 2), true);
        Checks.due("4: it did before", x.depends(0, 2), false);
        Checks.due("4: and still does", x.depends(0, 2), false);
        Checks.due("4: on another read", x.depends(1, 2), true);
        Checks.due("4: another event", x.depends(0, 1), true);
        Checks.due("4: each for itself", x.depends(0, 2), false);
        x.look(0);
        Checks.due("4: DEPENDS", pairsOf(x, 6, 3), "0-1 0-2 1-2");
    }

    private static void dependsOfFirstAndLast() {
        OrderAxioms x = withThreads(2);
        x.event(1, READ, 0, 0);
        addEvents(x, 10, 0, FENCE, 0);
        x.event(1, WRITE, 0, 1);
        Checks.due("4: the last event on the first", x.depends(0, 11), true);
        Checks.due("4: once more", x.depends(0, 11), false);
        x.look(1);
        Checks.due("4: DEPENDS", pairsOf(x, 6, 12), "0-11");
        OrderAxioms y = withThreads(1);
        addEvents(y, 3, 0, READ, 0);
        y.depends(0, 1);
        y.depends(1, 2);
        y.look(0);
        Checks.due("4: no more than was told", pairsOf(y, 6, 3), "0-1 1-2");
        y.event(0, WRITE, 1, 1);
        y.look(0);
        Checks.due("4: it stays when events come", pairsOf(y, 6, 4), "0-1 1-2");
    }

    private static void dependsOnNoEvent() {
        OrderAxioms x = withThreads(1);
        Checks.throwing("4: no events at all", ARGUMENT, () -> depends(x, 0, 0));
        Checks.throwing("4: no two events", ARGUMENT, () -> depends(x, 0, 1));
        addEvents(x, 2, 0, READ, 0);
        for (int wild : new int[] {-1, 2, 12, 32, Integer.MIN_VALUE, Integer.MAX_VALUE}) {
            Checks.throwing("4: on " + wild, ARGUMENT, () -> depends(x, wild, 1));
            Checks.throwing("4: of " + wild, ARGUMENT, () -> depends(x, 0, wild));
            Checks.throwing("4: both " + wild, ARGUMENT, () -> depends(x, wild, wild));
        }
        addEvents(x, 10, 0, READ, 0);
        Checks.throwing("4: no event 12", ARGUMENT, () -> depends(x, 0, 12));
        Checks.due("4: event 11", x.depends(10, 11), true);
    }

    private static void dependsOnNoRead() {
        OrderAxioms x = withThreads(1);
        x.event(0, WRITE, 0, 1);
        x.event(0, FENCE, 0, 0);
        x.event(0, READ, 0, 0);
        x.event(0, WRITE, 0, 2);
        Checks.throwing("4: on a write", ARGUMENT, () -> depends(x, 0, 2));
        Checks.throwing("4: a write on a write", ARGUMENT, () -> depends(x, 0, 3));
        Checks.throwing("4: on a fence", ARGUMENT, () -> depends(x, 1, 2));
        Checks.throwing("4: a write on a fence", ARGUMENT, () -> depends(x, 1, 3));
        Checks.due("4: on a read", x.depends(2, 3), true);
    }

    private static void dependsNotBefore() {
        OrderAxioms x = withThreads(2);
        x.event(0, READ, 0, 0);
        x.event(1, READ, 0, 0);
        x.event(0, READ, 0, 0);
        x.event(1, WRITE, 0, 1);
        Checks.throwing("4: on itself", ARGUMENT, () -> depends(x, 0, 0));
        Checks.throwing("4: on one behind", ARGUMENT, () -> depends(x, 2, 0));
        Checks.throwing("4: before, of another thread", ARGUMENT, () -> depends(x, 0, 1));
        Checks.throwing("4: a write of another", ARGUMENT, () -> depends(x, 0, 3));
        Checks.throwing("4: behind, of another thread", ARGUMENT, () -> depends(x, 2, 1));
        Checks.due("4: of its thread", x.depends(0, 2), true);
        Checks.due("4: of the other thread", x.depends(1, 3), true);
    }

    private static void dependsOfFence() {
        OrderAxioms x = withThreads(1);
        x.event(0, READ, 0, 0);
        x.event(0, FENCE, 0, 0);
        x.event(0, READ, 0, 0);
        Checks.throwing("4: a fence", ARGUMENT, () -> depends(x, 0, 1));
        Checks.due("4: over a fence", x.depends(0, 2), true);
    }

    private static void refusedDependsChangesNothing() {
        OrderAxioms x = withThreads(2);
        x.event(0, READ, 0, 0);
        x.event(0, FENCE, 0, 0);
        x.event(0, WRITE, 1, 1);
        x.event(1, WRITE, 0, 1);
        for (int a = 0; a < 4; a++) {
            for (int b = 0; b < 4; b++) {
                int first = a;
                int second = b;
                if (a != 0 || b != 2) {
                    Checks.throwing("4: " + a + " " + b, ARGUMENT, () -> depends(x, first, second));
                }
            }
        }
        x.look(0);
        Checks.due("4: none depends", pairsOf(x, 6, 4), "");
        Checks.due("4: it did not before", x.depends(0, 2), true);
        Checks.due("4: what was looked at stays", pairsOf(x, 6, 4), "");
        x.look(0);
        Checks.due("4: the one that does", pairsOf(x, 6, 4), "0-2");
    }

    private static void clearCounts() {
        OrderAxioms x = new OrderAxioms();
        Checks.due("18: no events", x.clear(), 0);
        x.thread();
        Checks.due("18: a thread without events", x.clear(), 0);
        for (int events = 1; events <= 12; events++) {
            addThreads(x, 2);
            addEvents(x, events, events % 2, events % 3, 0);
            Checks.due("18: how many events it had", x.clear(), events);
            Checks.due("18: none are left", x.clear(), 0);
        }
    }

    private static void clearedProgramIsGone() {
        OrderAxioms x = storeBufferingFenced();
        x.clear();
        Checks.due("18: counts", countsOf(x), "0 0 0 12 0 0 0 0");
        Checks.throwing("18: threads are gone", ARGUMENT, () -> x.event(0, FENCE, 0, 0));
        Checks.throwing("18: events are gone", ARGUMENT, () -> depends(x, 2, 2));
        Checks.due("18: threads begin with 0", x.thread(), 0);
        Checks.throwing("18: the second is still gone", ARGUMENT, () -> x.event(1, FENCE, 0, 0));
        Checks.due("18: events begin with 0", x.event(0, READ, 0, 0), 0);
        x.event(0, WRITE, 1, 4);
        Checks.due("18: writes are gone", outcomesOf(x), "[0]");
        x.look(0);
        Checks.due("18: fences are gone", pairsOf(x, 7, 2), "");
        Checks.throwing("18: orders are gone", INDEX, () -> x.order(0, 0));
        Checks.due("18: the new write alone", x.order(1, 0), 1);
        Checks.throwing("18: so it is", INDEX, () -> x.order(1, 1));
    }

    private static void clearedProgramCanBeFilledAgain() {
        OrderAxioms x = withThreads(4);
        for (int i = 0; i < 12; i++) {
            x.event(i % 2, READ, 0, 0);
        }
        for (int b = 2; b < 12; b += 2) {
            x.depends(0, b);
        }
        x.clear();
        for (int i = 0; i < 4; i++) {
            Checks.due("18: four threads again", x.thread(), i);
        }
        for (int i = 0; i < 12; i++) {
            Checks.due("18: twelve events again", x.event(0, READ, 1, 0), i);
        }
        x.look(0);
        Checks.due("18: dependences are gone", pairsOf(x, 6, 12), "");
        Checks.due("18: it did not before", x.depends(0, 2), true);
        Checks.throwing("18: not thirteen", UNSUPPORTED, () -> x.event(0, READ, 0, 0));
    }

    private static void clearKeepsRelationsAndRules() {
        OrderAxioms x = storeBuffering();
        x.given(3);
        x.rule(x.make(0, 0, 4));
        x.clear();
        Checks.due("18: relations stay", x.count(3), 21);
        Checks.due("18: rules stay", x.count(4), 3);
        Checks.due("18: the next one made", x.make(4, 20, 0), 21);
        addThreads(x, 2);
        x.event(0, READ, 0, 0);
        x.event(0, WRITE, 1, 1);
        x.event(1, READ, 1, 0);
        x.event(1, WRITE, 0, 1);
        Checks.due("18: and hold for what comes", outcomesOf(x), "[0 0][0 1][1 0]");
        Checks.due("18: the rule that breaks", x.look(3), 1);
    }

    private static void clearKeepsListed() {
        OrderAxioms x = messagePassing();
        x.given(2);
        x.run();
        for (int i = 0; i < 2; i++) {
            x.clear();
            Checks.due("18: what was listed stays", countsOf(x), "0 0 0 15 1 3 4 3");
            Checks.due("18: outcomes", listedOf(x, 2), "[0 0][0 1][1 1]");
            Checks.due("18: witnesses", witnessesOf(x), "[1 of 0][1 of 1][1 of 3]");
        }
        addThreads(x, 1);
        x.event(0, WRITE, 1, 8);
        x.event(0, READ, 3, 0);
        Checks.due("18: also when a program comes", listedOf(x, 2), "[0 0][0 1][1 1]");
    }

    private static void clearKeepsLookedAt() {
        OrderAxioms x = messagePassing();
        x.given(2);
        x.look(2);
        for (int i = 0; i < 2; i++) {
            Checks.due("18: the ring stays", ringOf(x), "0 1 2 3");
            Checks.due("18: sources stay", sourcesOf(x, 2), "1 -1");
            Checks.due("18: orders stay", x.order(0, 0) + " " + x.order(1, 0), "0 1");
            Checks.due("18: relations stay", pairsOf(x, 14, 4), "0-1 1-2 2-3 3-0");
            x.clear();
            addThreads(x, 3);
            x.event(2, FENCE, 0, 0);
        }
    }

    private static void clearedProgramIsListedAnew() {
        OrderAxioms x = messagePassing();
        x.given(2);
        x.run();
        x.look(2);
        x.clear();
        Checks.due("18: one empty outcome", x.run(), 1);
        Checks.due("18: of one execution", countsOf(x), "0 0 0 15 1 1 1 1");
        Checks.throwing("18: without reads", INDEX, () -> x.outcome(0, 0));
        Checks.due("18: its witness", witnessesOf(x), "[1 of 0]");
        Checks.due("18: it breaks nothing", x.look(0), -1);
        Checks.throwing("18: it is the only one", INDEX, () -> x.look(1));
        Checks.throwing("18: it has no sources", INDEX, () -> x.source(0));
        Checks.throwing("18: no orders", INDEX, () -> x.order(0, 0));
        Checks.throwing("18: no events", INDEX, () -> x.related(0, 0, 0) ? 1 : 0);
        Checks.due("18: no ring", x.ring(), 0);
    }
}
