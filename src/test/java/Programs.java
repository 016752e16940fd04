/**
 * Programs that the tests share, and what an object answers, told as texts. Tests extend it, so
 * that they can name all this without a prefix.
 */
abstract class Programs {
    static final int READ = 0;
    static final int WRITE = 1;
    static final int FENCE = 2;
    /** Never a number of anything: just below all, and the ends of int. */
    static final int[] WILD = {-1, Integer.MIN_VALUE, Integer.MAX_VALUE};
    static final Class<?> ARGUMENT = IllegalArgumentException.class;
    static final Class<?> UNSUPPORTED = UnsupportedOperationException.class;
    static final Class<?> INDEX = IndexOutOfBoundsException.class;

    static OrderAxioms withThreads(int threads) {
        OrderAxioms x = new OrderAxioms();
        addThreads(x, threads);
        return x;
    }

    static void addThreads(OrderAxioms x, int threads) {
        for (int i = 0; i < threads; i++) {
            x.thread();
        }
    }

    static void addEvents(OrderAxioms x, int many, int thread, int kind, int place) {
        for (int i = 0; i < many; i++) {
            x.event(thread, kind, place, i + 1);
        }
    }

    /** Writes place 0, reads place 1; and the other way round. */
    static OrderAxioms storeBuffering() {
        OrderAxioms x = withThreads(2);
        x.event(0, WRITE, 0, 1);
        x.event(0, READ, 1, 0);
        x.event(1, WRITE, 1, 1);
        x.event(1, READ, 0, 0);
        return x;
    }

    static OrderAxioms storeBufferingFenced() {
        OrderAxioms x = withThreads(2);
        x.event(0, WRITE, 0, 1);
        x.event(0, FENCE, 0, 0);
        x.event(0, READ, 1, 0);
        x.event(1, WRITE, 1, 1);
        x.event(1, FENCE, 0, 0);
        x.event(1, READ, 0, 0);
        return x;
    }

    static OrderAxioms messagePassing() {
        OrderAxioms x = withThreads(2);
        x.event(0, WRITE, 0, 1);
        x.event(0, WRITE, 1, 1);
        x.event(1, READ, 1, 0);
        x.event(1, READ, 0, 0);
        return x;
    }

    static OrderAxioms loadBuffering(boolean depending) {
        OrderAxioms x = withThreads(2);
        x.event(0, READ, 0, 0);
        x.event(0, WRITE, 1, 1);
        x.event(1, READ, 1, 0);
        x.event(1, WRITE, 0, 1);
        if (depending) {
            x.depends(0, 1);
            x.depends(2, 3);
        }
        return x;
    }

    /** All outcomes of a new run, each as its values in brackets. */
    static String outcomesOf(OrderAxioms x) {
        x.run();
        return listedOf(x, x.count(2));
    }

    /** All outcomes of the latest run, which had so many reads. */
    static String listedOf(OrderAxioms x, int reads) {
        StringBuilder text = new StringBuilder();
        int outcomes = x.count(5);
        for (int k = 0; k < outcomes; k++) {
            text.append('[');
            for (int i = 0; i < reads; i++) {
                text.append(i == 0 ? "" : " ").append(x.outcome(k, i));
            }
            text.append(']');
        }
        return text.toString();
    }

    /** For each outcome how many executions have it, and the first one. */
    static String witnessesOf(OrderAxioms x) {
        StringBuilder text = new StringBuilder();
        int outcomes = x.count(5);
        for (int k = 0; k < outcomes; k++) {
            text.append('[').append(x.witness(k, 0)).append(" of ").append(x.witness(k, 1));
            text.append(']');
        }
        return text.toString();
    }

    static String sourcesOf(OrderAxioms x, int reads) {
        StringBuilder text = new StringBuilder();
        for (int i = 0; i < reads; i++) {
            text.append(i == 0 ? "" : " ").append(x.source(i));
        }
        return text.toString();
    }

    static String orderOf(OrderAxioms x, int place, int writes) {
        StringBuilder text = new StringBuilder();
        for (int i = 0; i < writes; i++) {
            text.append(i == 0 ? "" : " ").append(x.order(place, i));
        }
        return text.toString();
    }

    static String ringOf(OrderAxioms x) {
        StringBuilder text = new StringBuilder();
        int length = x.ring();
        for (int i = 0; i < length; i++) {
            text.append(i == 0 ? "" : " ").append(x.ringAt(i));
        }
        return text.toString();
    }

    /** All pairs of a relation in the execution looked at, each as its two events. */
    static String pairsOf(OrderAxioms x, int relation, int events) {
        StringBuilder text = new StringBuilder();
        for (int a = 0; a < events; a++) {
            for (int b = 0; b < events; b++) {
                if (x.related(relation, a, b)) {
                    text.append(text.length() == 0 ? "" : " ").append(a).append('-').append(b);
                }
            }
        }
        return text.toString();
    }

    static String countsOf(OrderAxioms x) {
        StringBuilder text = new StringBuilder();
        for (int what = 0; what < 8; what++) {
            text.append(what == 0 ? "" : " ").append(x.count(what));
        }
        return text.toString();
    }

    /** What a refused call must leave as it is; the execution looked at had so many reads. */
    static String stateOf(OrderAxioms x, int listedReads, int seenReads) {
        return countsOf(x) + " / " + listedOf(x, listedReads) + " / " + witnessesOf(x) + " / "
            + sourcesOf(x, seenReads) + " / " + ringOf(x);
    }
}
