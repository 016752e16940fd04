import java.util.ArrayList;
import java.util.List;
import java.util.TreeMap;

/**
 * The document once more, with the same face, as plainly as it can be written and by other ways
 * than the class under test: tables of booleans, lists of whole executions, rings by trial.
 */
final class PlainOrder {
    private record Event(int thread, int kind, int place, int value) {
    }

    private record Execution(List<Integer> sources, List<List<Integer>> orders) {
    }

    private int threads = 0;
    private List<Event> events = new ArrayList<>();
    private List<List<Integer>> dependences = new ArrayList<>();
    private List<int[]> made = new ArrayList<>();
    private List<Integer> rules = new ArrayList<>();

    private int listed = 0;
    private int allowed = 0;
    private List<List<Integer>> outcomes = new ArrayList<>();
    private List<int[]> witnesses = new ArrayList<>();
    private int listedReads = 0;

    private Execution seen = new Execution(List.of(), List.of(List.of(), List.of(), List.of(), List.of()));
    private int seenEvents = 0;
    private List<boolean[][]> seenRelations = List.of();
    private List<Integer> seenRing = List.of();

    int thread() {
        if (threads == 4) {
            throw new UnsupportedOperationException();
        }
        return threads++;
    }

    int event(int thread, int kind, int place, int value) {
        if (thread < 0 || thread >= threads || kind < 0 || kind > 2) {
            throw new IllegalArgumentException();
        }
        if (kind != 2 && (place < 0 || place > 3)) {
            throw new IllegalArgumentException();
        }
        if (events.size() == 12) {
            throw new UnsupportedOperationException();
        }
        events.add(new Event(thread, kind, place, value));
        return events.size() - 1;
    }

    boolean depends(int a, int b) {
        int n = events.size();
        if (a < 0 || b < 0 || a >= n || b >= n) {
            throw new IllegalArgumentException();
        }
        Event first = events.get(a);
        Event second = events.get(b);
        if (first.kind != 0 || second.kind == 2 || first.thread != second.thread || a >= b) {
            throw new IllegalArgumentException();
        }
        if (dependences.contains(List.of(a, b))) {
            return false;
        }
        dependences.add(List.of(a, b));
        return true;
    }

    int make(int how, int a, int b) {
        int n = 12 + made.size();
        if (how < 0 || how > 5 || a < 0 || a >= n || how < 4 && (b < 0 || b >= n)) {
            throw new IllegalArgumentException();
        }
        if (n == 40) {
            throw new UnsupportedOperationException();
        }
        made.add(new int[] {how, a, b});
        return n;
    }

    int rule(int relation) {
        if (relation < 0 || relation >= 12 + made.size()) {
            throw new IllegalArgumentException();
        }
        if (rules.size() == 8) {
            throw new UnsupportedOperationException();
        }
        rules.add(relation);
        return rules.size();
    }

    int given(int kind) {
        // Each row: how, then what it is made of; a last number -1 makes a rule of the newest.
        int[][] same = {{0, 5, 1}, {0, 12, 2}, {0, 13, 3}, {-1}};
        int[][][] steps = {
            {},
            same,
            {{0, 0, 1}, {0, 12, 2}, {0, 13, 3}, {-1}},
            {same[0], same[1], same[2], same[3],
                {2, 0, 10}, {0, 15, 7}, {0, 16, 4}, {0, 17, 2}, {0, 18, 3}, {-1}},
            {same[0], same[1], same[2], same[3],
                {2, 0, 10}, {2, 15, 11}, {0, 16, 7}, {0, 17, 4}, {0, 18, 2}, {0, 19, 3}, {-1}},
            {same[0], same[1], same[2], same[3],
                {0, 6, 7}, {0, 15, 4}, {0, 16, 2}, {0, 17, 3}, {-1}},
        };
        if (kind < 0 || kind >= steps.length) {
            throw new IllegalArgumentException();
        }
        made = new ArrayList<>();
        rules = new ArrayList<>();
        for (int[] step : steps[kind]) {
            if (step[0] == -1) {
                rules.add(11 + made.size());
            } else {
                made.add(step);
            }
        }
        return 12 + made.size();
    }

    int run() {
        List<Execution> all = executions();
        TreeMap<List<Integer>, int[]> found = new TreeMap<>(PlainOrder::compareRows);
        int good = 0;
        for (int e = 0; e < all.size(); e++) {
            if (firstBroken(relationsOf(all.get(e))) != -1) {
                continue;
            }
            good++;
            List<Integer> values = new ArrayList<>();
            for (int from : all.get(e).sources) {
                values.add(from == -1 ? 0 : events.get(from).value);
            }
            int[] row = found.computeIfAbsent(values, key -> new int[] {0, -1});
            row[0]++;
            row[1] = row[1] == -1 ? e : row[1];
        }
        listed = all.size();
        allowed = good;
        outcomes = new ArrayList<>(found.keySet());
        witnesses = new ArrayList<>(found.values());
        listedReads = count(2);
        return outcomes.size();
    }

    int outcome(int k, int i) {
        if (k < 0 || k >= outcomes.size() || i < 0 || i >= listedReads) {
            throw new IndexOutOfBoundsException();
        }
        return outcomes.get(k).get(i);
    }

    int witness(int k, int what) {
        if (k < 0 || k >= outcomes.size() || what < 0 || what > 1) {
            throw new IndexOutOfBoundsException();
        }
        return witnesses.get(k)[what];
    }

    int look(int e) {
        List<Execution> all = executions();
        if (e < 0 || e >= all.size()) {
            throw new IndexOutOfBoundsException();
        }
        seen = all.get(e);
        seenEvents = events.size();
        seenRelations = relationsOf(seen);
        int broken = firstBroken(seenRelations);
        seenRing = broken == -1 ? List.of() : shortestRing(seenRelations.get(rules.get(broken)));
        return broken;
    }

    int source(int i) {
        if (i < 0 || i >= seen.sources.size()) {
            throw new IndexOutOfBoundsException();
        }
        return seen.sources.get(i);
    }

    int order(int place, int i) {
        if (place < 0 || place > 3 || i < 0 || i >= seen.orders.get(place).size()) {
            throw new IndexOutOfBoundsException();
        }
        return seen.orders.get(place).get(i);
    }

    boolean related(int relation, int a, int b) {
        if (relation < 0 || relation >= seenRelations.size()
                || a < 0 || a >= seenEvents || b < 0 || b >= seenEvents) {
            throw new IndexOutOfBoundsException();
        }
        return seenRelations.get(relation)[a][b];
    }

    int ring() {
        return seenRing.size();
    }

    int ringAt(int i) {
        if (i < 0 || i >= seenRing.size()) {
            throw new IndexOutOfBoundsException();
        }
        return seenRing.get(i);
    }

    int count(int what) {
        int reads = 0;
        for (Event event : events) {
            reads += event.kind == 0 ? 1 : 0;
        }
        int[] counts = {threads, events.size(), reads, 12 + made.size(), rules.size(),
            outcomes.size(), listed, allowed};
        return what < 0 || what >= counts.length ? -1 : counts[what];
    }

    int clear() {
        int had = events.size();
        threads = 0;
        events = new ArrayList<>();
        dependences = new ArrayList<>();
        return had;
    }

    private static int compareRows(List<Integer> a, List<Integer> b) {
        for (int i = 0; i < a.size(); i++) {
            if (!a.get(i).equals(b.get(i))) {
                return a.get(i).compareTo(b.get(i));
            }
        }
        return 0;
    }

    private List<Integer> writesTo(int place) {
        List<Integer> writes = new ArrayList<>();
        for (int e = 0; e < events.size(); e++) {
            if (events.get(e).kind == 1 && events.get(e).place == place) {
                writes.add(e);
            }
        }
        return writes;
    }

    private List<Execution> executions() {
        long total = 1;
        for (Event event : events) {
            total *= event.kind == 0 ? 1 + writesTo(event.place).size() : 1;
        }
        for (int place = 0; place < 4; place++) {
            for (int k = writesTo(place).size(); k > 1; k--) {
                total *= k;
            }
        }
        if (total > 5000) {
            throw new UnsupportedOperationException();
        }
        List<List<List<Integer>>> digits = new ArrayList<>();
        for (Event event : events) {
            if (event.kind == 0) {
                List<List<Integer>> choices = new ArrayList<>();
                choices.add(List.of(-1));
                for (int write : writesTo(event.place)) {
                    choices.add(List.of(write));
                }
                digits.add(choices);
            }
        }
        for (int place = 0; place < 4; place++) {
            List<List<Integer>> choices = new ArrayList<>();
            addOrders(new ArrayList<>(), writesTo(place), choices);
            digits.add(choices);
        }
        List<Execution> all = new ArrayList<>();
        addExecutions(digits, new ArrayList<>(), all);
        return all;
    }

    private static void addOrders(List<Integer> begun, List<Integer> left, List<List<Integer>> to) {
        if (left.isEmpty()) {
            to.add(List.copyOf(begun));
        }
        for (Integer next : left) {
            List<Integer> longer = new ArrayList<>(begun);
            longer.add(next);
            List<Integer> rest = new ArrayList<>(left);
            rest.remove(next);
            addOrders(longer, rest, to);
        }
    }

    private static void addExecutions(List<List<List<Integer>>> digits,
            List<List<Integer>> chosen, List<Execution> to) {
        if (chosen.size() == digits.size()) {
            int reads = digits.size() - 4;
            List<Integer> sources = new ArrayList<>();
            for (int i = 0; i < reads; i++) {
                sources.add(chosen.get(i).get(0));
            }
            to.add(new Execution(sources, List.copyOf(chosen.subList(reads, reads + 4))));
            return;
        }
        for (List<Integer> digit : digits.get(chosen.size())) {
            chosen.add(digit);
            addExecutions(digits, chosen, to);
            chosen.remove(chosen.size() - 1);
        }
    }

    private List<boolean[][]> relationsOf(Execution execution) {
        int n = events.size();
        List<boolean[][]> relations = new ArrayList<>();
        for (int relation = 0; relation < 12; relation++) {
            boolean[][] table = new boolean[n][n];
            for (int a = 0; a < n; a++) {
                for (int b = 0; b < n; b++) {
                    table[a][b] = isGiven(relation, a, b, execution);
                }
            }
            relations.add(table);
        }
        for (int[] how : made) {
            relations.add(madeTable(how[0], relations.get(how[1]),
                    how[0] < 4 ? relations.get(how[2]) : null, n));
        }
        return relations;
    }

    private boolean isGiven(int relation, int a, int b, Execution execution) {
        Event first = events.get(a);
        Event second = events.get(b);
        boolean program = first.thread == second.thread && a < b;
        switch (relation) {
            case 0:
                return program;
            case 1:
                return second.kind == 0 && sourceOf(b, execution) == a;
            case 2:
                return first.kind == 1 && second.kind == 1 && first.place == second.place
                    && execution.orders.get(first.place).indexOf(a)
                        < execution.orders.get(first.place).indexOf(b);
            case 3:
                // indexOf answers -1 for NONE, which stands before all writes.
                return first.kind == 0 && second.kind == 1 && first.place == second.place
                    && execution.orders.get(first.place).indexOf(sourceOf(a, execution))
                        < execution.orders.get(first.place).indexOf(b);
            case 4:
                return isGiven(1, a, b, execution) && first.thread != second.thread;
            case 5:
                return program && first.kind != 2 && second.kind != 2
                    && first.place == second.place;
            case 6:
                return dependences.contains(List.of(a, b));
            case 7:
                return program && first.kind != 2 && second.kind != 2 && fenceBetween(a, b);
            case 8:
                return program && first.kind == 0 && second.kind == 0;
            case 9:
                return program && first.kind == 0 && second.kind == 1;
            case 10:
                return program && first.kind == 1 && second.kind == 0;
            default:
                return program && first.kind == 1 && second.kind == 1;
        }
    }

    private int sourceOf(int read, Execution execution) {
        int i = 0;
        for (int e = 0; e < read; e++) {
            i += events.get(e).kind == 0 ? 1 : 0;
        }
        return execution.sources.get(i);
    }

    private boolean fenceBetween(int a, int b) {
        for (int e = a + 1; e < b; e++) {
            if (events.get(e).kind == 2 && events.get(e).thread == events.get(a).thread) {
                return true;
            }
        }
        return false;
    }

    private static boolean[][] madeTable(int how, boolean[][] x, boolean[][] y, int n) {
        boolean[][] table = new boolean[n][n];
        for (int a = 0; a < n; a++) {
            for (int b = 0; b < n; b++) {
                switch (how) {
                    case 0:
                        table[a][b] = x[a][b] || y[a][b];
                        break;
                    case 1:
                        table[a][b] = x[a][b] && y[a][b];
                        break;
                    case 2:
                        table[a][b] = x[a][b] && !y[a][b];
                        break;
                    case 3:
                        table[a][b] = isJoined(x, y, a, b, n);
                        break;
                    case 4:
                        table[a][b] = x[b][a];
                        break;
                    default:
                        table[a][b] = isReached(x, a, b, new boolean[n]);
                        break;
                }
            }
        }
        return table;
    }

    private static boolean isJoined(boolean[][] x, boolean[][] y, int a, int b, int n) {
        for (int between = 0; between < n; between++) {
            if (x[a][between] && y[between][b]) {
                return true;
            }
        }
        return false;
    }

    private static boolean isReached(boolean[][] x, int a, int b, boolean[] tried) {
        if (x[a][b]) {
            return true;
        }
        for (int next = 0; next < x.length; next++) {
            if (x[a][next] && !tried[next]) {
                tried[next] = true;
                if (isReached(x, next, b, tried)) {
                    return true;
                }
            }
        }
        return false;
    }

    private int firstBroken(List<boolean[][]> relations) {
        for (int i = 0; i < rules.size(); i++) {
            boolean[][] table = relations.get(rules.get(i));
            for (int a = 0; a < table.length; a++) {
                if (isReached(table, a, a, new boolean[table.length])) {
                    return i;
                }
            }
        }
        return -1;
    }

    /** The first ring of the least length, when rows of events go like words. */
    private static List<Integer> shortestRing(boolean[][] table) {
        for (int length = 1; length <= table.length; length++) {
            for (int start = 0; start < table.length; start++) {
                List<Integer> ring = new ArrayList<>(List.of(start));
                if (isClosed(table, ring, length)) {
                    return ring;
                }
            }
        }
        return List.of();
    }

    private static boolean isClosed(boolean[][] table, List<Integer> ring, int length) {
        int last = ring.get(ring.size() - 1);
        if (ring.size() == length) {
            return table[last][ring.get(0)];
        }
        for (int next = 0; next < table.length; next++) {
            if (table[last][next]) {
                ring.add(next);
                if (isClosed(table, ring, length)) {
                    return true;
                }
                ring.remove(ring.size() - 1);
            }
        }
        return false;
    }
}
