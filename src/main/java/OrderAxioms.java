/**
 * Orders of memory as rules over relations, and what small programs of several threads may read
 * under them.
 *
 * <p>A relation is a row of masks: bit b of the mask at index a says that event a is in it with
 * event b. All rows are made with the object and used again, so that no call makes anything.
 */
public final class OrderAxioms {
    public static final int NONE = -1;

    private static final int MAX_THREADS = 4;
    private static final int MAX_EVENTS = 12;
    private static final int MAX_RELATIONS = 40;
    private static final int MAX_RULES = 8;
    private static final int MAX_EXECUTIONS = 5000;
    private static final int PLACES = 4;

    private static final int READ = 0;
    private static final int WRITE = 1;
    private static final int FENCE = 2;

    private static final int PROGRAM = 0;
    private static final int FROM = 1;
    private static final int WRITES = 2;
    private static final int BACK = 3;
    private static final int OUTER = 4;
    private static final int SAME = 5;
    private static final int DEPENDS = 6;
    private static final int FENCED = 7;
    private static final int READ_READ = 8;
    private static final int WRITE_READ = 10;
    private static final int WRITE_WRITE = 11;
    private static final int GIVEN = 12;

    private static final int UNION = 0;
    private static final int MEET = 1;
    private static final int DIFFERENCE = 2;
    private static final int JOIN = 3;
    private static final int TURN = 4;
    private static final int CLOSURE = 5;

    private final Program program = new Program();
    private final Model model = new Model();
    private final Listing listing = new Listing();
    // A run must not disturb what was looked at, so each has an execution of its own.
    private final Execution tried = new Execution();
    private final Execution seen = new Execution();
    private final Ring seenRing = new Ring();

    public OrderAxioms() {
    }

    public int thread() throws UnsupportedOperationException {
        if (program.threads >= MAX_THREADS) {
            throw new UnsupportedOperationException("there are four threads");
        }
        program.threads++;
        return program.threads - 1;
    }

    public int event(int thread, int kind, int place, int value)
            throws IllegalArgumentException, UnsupportedOperationException {
        if (!isBelow(thread, program.threads)) {
            throw new IllegalArgumentException("no such thread");
        }
        if (kind != READ && kind != WRITE && kind != FENCE) {
            throw new IllegalArgumentException("no such kind");
        }
        if (kind != FENCE && !isBelow(place, PLACES)) {
            throw new IllegalArgumentException("no such place");
        }
        if (program.events >= MAX_EVENTS) {
            throw new UnsupportedOperationException("there are twelve events");
        }
        return program.append(thread, kind, place, value);
    }

    public boolean depends(int a, int b) throws IllegalArgumentException {
        if (!isBelow(a, program.events) || !isBelow(b, program.events)) {
            throw new IllegalArgumentException("no such event");
        }
        if (program.kindOf[a] != READ || program.kindOf[b] == FENCE || !program.isBefore(a, b)) {
            throw new IllegalArgumentException("no dependence of an event on a read before it");
        }
        boolean isNew = (program.dependents[a] & (1 << b)) == 0;
        program.dependents[a] |= 1 << b;
        return isNew;
    }

    public int make(int how, int a, int b)
            throws IllegalArgumentException, UnsupportedOperationException {
        if (how < UNION || how > CLOSURE) {
            throw new IllegalArgumentException("no such way to make a relation");
        }
        if (!isBelow(a, model.relations) || takesTwo(how) && !isBelow(b, model.relations)) {
            throw new IllegalArgumentException("no such relation");
        }
        if (model.relations >= MAX_RELATIONS) {
            throw new UnsupportedOperationException("there are forty relations");
        }
        return model.addRelation(how, a, b);
    }

    public int rule(int relation) throws IllegalArgumentException, UnsupportedOperationException {
        if (!isBelow(relation, model.relations)) {
            throw new IllegalArgumentException("no such relation");
        }
        if (model.rules >= MAX_RULES) {
            throw new UnsupportedOperationException("there are eight rules");
        }
        model.addRule(relation);
        return model.rules;
    }

    public int given(int kind) throws IllegalArgumentException {
        if (kind < 0 || kind > 5) {
            throw new IllegalArgumentException("no such kind");
        }
        model.forget();
        if (kind == 2) {
            model.addOrderRule(PROGRAM, FROM);
        } else if (kind != 0) {
            model.addOrderRule(SAME, FROM);
        }
        if (kind >= 3) {
            model.addOrderRule(model.addKept(kind), OUTER);
        }
        return model.relations;
    }

    public int run() throws UnsupportedOperationException {
        int executions = program.countExecutions();
        if (executions > MAX_EXECUTIONS) {
            throw new UnsupportedOperationException("more than 5000 executions");
        }
        listing.begin(program, executions);
        tried.prepare(program, model, false);
        for (int number = 0; number < executions; number++) {
            tried.choose(program, model, number);
            if (tried.firstBroken(model) == NONE) {
                listing.addAllowed(number, tried.picks);
            }
        }
        listing.finish();
        return listing.outcomes;
    }

    public int outcome(int k, int i) throws IndexOutOfBoundsException {
        if (!isBelow(k, listing.outcomes) || !isBelow(i, listing.reads)) {
            throw new IndexOutOfBoundsException("no such outcome or read");
        }
        return listing.valueRead(k, i);
    }

    public int witness(int k, int what) throws IndexOutOfBoundsException {
        if (!isBelow(k, listing.outcomes) || !isBelow(what, 2)) {
            throw new IndexOutOfBoundsException("no such outcome or question");
        }
        return what == 0 ? listing.totals[k] : listing.firsts[k];
    }

    public int look(int e) throws IndexOutOfBoundsException, UnsupportedOperationException {
        int executions = program.countExecutions();
        if (executions > MAX_EXECUTIONS) {
            throw new UnsupportedOperationException("more than 5000 executions");
        }
        if (!isBelow(e, executions)) {
            throw new IndexOutOfBoundsException("no such execution");
        }
        seen.prepare(program, model, true);
        seen.choose(program, model, e);
        int broken = seen.firstBroken(model);
        if (broken == NONE) {
            seenRing.length = 0;
        } else {
            seenRing.find(seen.rows[model.ruleRelations[broken]], seen.events);
        }
        return broken;
    }

    public int source(int i) throws IndexOutOfBoundsException {
        if (!isBelow(i, seen.reads)) {
            throw new IndexOutOfBoundsException("no such read");
        }
        return seen.sources[i];
    }

    public int order(int place, int i) throws IndexOutOfBoundsException {
        if (!isBelow(place, PLACES) || !isBelow(i, seen.orderCounts[place])) {
            throw new IndexOutOfBoundsException("no such write");
        }
        return seen.orders[place][i];
    }

    public boolean related(int relation, int a, int b) throws IndexOutOfBoundsException {
        if (!isBelow(relation, seen.relations) || !isBelow(a, seen.events)
                || !isBelow(b, seen.events)) {
            throw new IndexOutOfBoundsException("no such relation or event");
        }
        return (seen.rows[relation][a] & (1 << b)) != 0;
    }

    public int ring() {
        return seenRing.length;
    }

    public int ringAt(int i) throws IndexOutOfBoundsException {
        if (!isBelow(i, seenRing.length)) {
            throw new IndexOutOfBoundsException("no such event of a ring");
        }
        return seenRing.members[i];
    }

    public int count(int what) {
        switch (what) {
            case 0:
                return program.threads;
            case 1:
                return program.events;
            case 2:
                return program.reads;
            case 3:
                return model.relations;
            case 4:
                return model.rules;
            case 5:
                return listing.outcomes;
            case 6:
                return listing.executions;
            case 7:
                return listing.allowed;
            default:
                return NONE;
        }
    }

    public int clear() {
        int had = program.events;
        program.forget();
        return had;
    }

    private static boolean isBelow(int index, int bound) {
        return index >= 0 && index < bound;
    }

    private static boolean takesTwo(int how) {
        return how != TURN && how != CLOSURE;
    }

    /** The threads and events as they are now. */
    private static final class Program {
        int threads;
        int events;
        int reads;
        final int[] threadOf = new int[MAX_EVENTS];
        final int[] kindOf = new int[MAX_EVENTS];
        final int[] placeOf = new int[MAX_EVENTS];
        final int[] valueOf = new int[MAX_EVENTS];
        final int[] dependents = new int[MAX_EVENTS];
        final int[] readEvents = new int[MAX_EVENTS];
        final int[] writeCounts = new int[PLACES];
        final int[] writeMasks = new int[PLACES];
        final int[][] writeEvents = new int[PLACES][MAX_EVENTS];

        void forget() {
            threads = 0;
            events = 0;
            reads = 0;
            for (int place = 0; place < PLACES; place++) {
                writeCounts[place] = 0;
                writeMasks[place] = 0;
            }
        }

        int append(int thread, int kind, int place, int value) {
            int added = events;
            threadOf[added] = thread;
            kindOf[added] = kind;
            placeOf[added] = kind == FENCE ? NONE : place;
            valueOf[added] = value;
            dependents[added] = 0;
            if (kind == READ) {
                readEvents[reads] = added;
                reads++;
            } else if (kind == WRITE) {
                writeEvents[place][writeCounts[place]] = added;
                writeCounts[place]++;
                writeMasks[place] |= 1 << added;
            }
            events++;
            return added;
        }

        boolean isBefore(int a, int b) {
            return a < b && threadOf[a] == threadOf[b];
        }

        int placeRead(int i) {
            return placeOf[readEvents[i]];
        }

        /** Stops at the first product above the limit, so that none can overflow. */
        int countExecutions() {
            int product = 1;
            for (int i = 0; i < reads && product <= MAX_EXECUTIONS; i++) {
                product *= 1 + writeCounts[placeRead(i)];
            }
            for (int place = 0; place < PLACES; place++) {
                for (int k = 2; k <= writeCounts[place] && product <= MAX_EXECUTIONS; k++) {
                    product *= k;
                }
            }
            return product;
        }
    }

    /** The relations that were made, by their numbers, and the rules. */
    private static final class Model {
        int relations = GIVEN;
        int rules;
        final int[] hows = new int[MAX_RELATIONS];
        final int[] lefts = new int[MAX_RELATIONS];
        final int[] rights = new int[MAX_RELATIONS];
        final int[] ruleRelations = new int[MAX_RULES];

        void forget() {
            relations = GIVEN;
            rules = 0;
        }

        int addRelation(int how, int left, int right) {
            int added = relations;
            hows[added] = how;
            lefts[added] = left;
            // The right one may be no relation at all where it does not matter.
            rights[added] = takesTwo(how) ? right : left;
            relations++;
            return added;
        }

        void addRule(int relation) {
            ruleRelations[rules] = relation;
            rules++;
        }

        void addOrderRule(int kept, int reading) {
            int made = addRelation(UNION, kept, reading);
            made = addRelation(UNION, made, WRITES);
            addRule(addRelation(UNION, made, BACK));
        }

        /** What the given orders 3 to 5 keep of the order of each thread. */
        int addKept(int kind) {
            int kept = DEPENDS;
            if (kind <= 4) {
                kept = addRelation(DIFFERENCE, PROGRAM, WRITE_READ);
            }
            if (kind == 4) {
                kept = addRelation(DIFFERENCE, kept, WRITE_WRITE);
            }
            return addRelation(UNION, kept, FENCED);
        }
    }

    /** What one execution chooses, and its relations. */
    private static final class Execution {
        int events;
        int relations;
        int reads;
        final int[] picks = new int[MAX_EVENTS];
        final int[] sources = new int[MAX_EVENTS];
        final int[] orderCounts = new int[PLACES];
        final int[][] orders = new int[PLACES][MAX_EVENTS];
        final int[][] rows = new int[MAX_RELATIONS][MAX_EVENTS];
        private final int[] orderPicks = new int[MAX_EVENTS];
        private final boolean[] wanted = new boolean[MAX_RELATIONS];
        private final boolean[] steady = new boolean[MAX_RELATIONS];
        private final int[] plan = new int[MAX_RELATIONS];
        private int planned;

        /** Works out once what no choice changes; choose does the rest for each execution. */
        void prepare(Program program, Model model, boolean all) {
            events = program.events;
            relations = model.relations;
            reads = program.reads;
            fillSteady(program);
            markWanted(model, all);
            planned = 0;
            for (int relation = 0; relation < relations; relation++) {
                if (relation < GIVEN) {
                    steady[relation] = relation < FROM || relation > OUTER;
                    continue;
                }
                steady[relation] = steady[model.lefts[relation]] && steady[model.rights[relation]];
                if (wanted[relation] && steady[relation]) {
                    fillMade(model, relation);
                } else if (wanted[relation]) {
                    plan[planned] = relation;
                    planned++;
                }
            }
        }

        void choose(Program program, Model model, int number) {
            int rest = number;
            for (int place = PLACES - 1; place >= 0; place--) {
                int count = program.writeCounts[place];
                for (int choices = 1; choices <= count; choices++) {
                    orderPicks[count - choices] = rest % choices;
                    rest /= choices;
                }
                arrange(program, place);
            }
            for (int i = reads - 1; i >= 0; i--) {
                int place = program.placeRead(i);
                int choices = 1 + program.writeCounts[place];
                picks[i] = rest % choices;
                rest /= choices;
                sources[i] = picks[i] == 0 ? NONE : program.writeEvents[place][picks[i] - 1];
            }
            fillChosen(program);
            for (int i = 0; i < planned; i++) {
                fillMade(model, plan[i]);
            }
        }

        int firstBroken(Model model) {
            for (int i = 0; i < model.rules; i++) {
                if (Rows.hasRing(rows[model.ruleRelations[i]], events)) {
                    return i;
                }
            }
            return NONE;
        }

        /** Each pick is among the writes that are left, lowest first: so rows go like words. */
        private void arrange(Program program, int place) {
            int count = program.writeCounts[place];
            int left = program.writeMasks[place];
            orderCounts[place] = count;
            for (int i = 0; i < count; i++) {
                orders[place][i] = Rows.memberAt(left, orderPicks[i]);
                left &= ~(1 << orders[place][i]);
            }
        }

        /** A rule needs only what it is made of; a relation is made of lower ones alone. */
        private void markWanted(Model model, boolean all) {
            for (int relation = 0; relation < relations; relation++) {
                wanted[relation] = all;
            }
            for (int i = 0; i < model.rules; i++) {
                wanted[model.ruleRelations[i]] = true;
            }
            for (int relation = relations - 1; relation >= GIVEN; relation--) {
                if (wanted[relation]) {
                    wanted[model.lefts[relation]] = true;
                    wanted[model.rights[relation]] = true;
                }
            }
        }

        private void fillSteady(Program program) {
            for (int a = 0; a < events; a++) {
                for (int relation = SAME; relation < GIVEN; relation++) {
                    rows[relation][a] = 0;
                }
                rows[PROGRAM][a] = 0;
                rows[DEPENDS][a] = program.dependents[a];
                fillBehind(program, a);
            }
        }

        private void fillBehind(Program program, int a) {
            boolean fenced = false;
            for (int b = a + 1; b < events; b++) {
                if (!program.isBefore(a, b)) {
                    continue;
                }
                rows[PROGRAM][a] |= 1 << b;
                if (program.kindOf[b] == FENCE) {
                    fenced = true;
                } else if (program.kindOf[a] != FENCE) {
                    fillPair(program, a, b, fenced);
                }
            }
        }

        private void fillPair(Program program, int a, int b, boolean fenced) {
            if (fenced) {
                rows[FENCED][a] |= 1 << b;
            }
            if (program.placeOf[a] == program.placeOf[b]) {
                rows[SAME][a] |= 1 << b;
            }
            // The four relations of kinds stand in the order of their two kinds' digits.
            rows[READ_READ + 2 * program.kindOf[a] + program.kindOf[b]][a] |= 1 << b;
        }

        private void fillChosen(Program program) {
            for (int a = 0; a < events; a++) {
                for (int relation = FROM; relation <= OUTER; relation++) {
                    rows[relation][a] = 0;
                }
            }
            for (int place = 0; place < PLACES; place++) {
                int behind = 0;
                for (int i = orderCounts[place] - 1; i >= 0; i--) {
                    int write = orders[place][i];
                    rows[WRITES][write] = behind;
                    behind |= 1 << write;
                }
            }
            for (int i = 0; i < reads; i++) {
                fillRead(program, program.readEvents[i], sources[i]);
            }
        }

        private void fillRead(Program program, int read, int from) {
            if (from == NONE) {
                rows[BACK][read] = program.writeMasks[program.placeOf[read]];
                return;
            }
            rows[BACK][read] = rows[WRITES][from];
            rows[FROM][from] |= 1 << read;
            if (program.threadOf[from] != program.threadOf[read]) {
                rows[OUTER][from] |= 1 << read;
            }
        }

        private void fillMade(Model model, int relation) {
            int[] left = rows[model.lefts[relation]];
            int[] right = rows[model.rights[relation]];
            int[] made = rows[relation];
            switch (model.hows[relation]) {
                case JOIN:
                    Rows.fillJoin(made, left, right, events);
                    break;
                case TURN:
                    Rows.fillTurn(made, left, events);
                    break;
                case CLOSURE:
                    Rows.fillClosure(made, left, events);
                    break;
                default:
                    Rows.fillEach(made, left, right, model.hows[relation], events);
                    break;
            }
        }
    }

    /** What is worked out of relations, each a row of masks for a number of events. */
    private static final class Rows {
        /** UNION, MEET or DIFFERENCE, which look at each pair of events alone. */
        static void fillEach(int[] made, int[] left, int[] right, int how, int events) {
            for (int a = 0; a < events; a++) {
                if (how == UNION) {
                    made[a] = left[a] | right[a];
                } else if (how == MEET) {
                    made[a] = left[a] & right[a];
                } else {
                    made[a] = left[a] & ~right[a];
                }
            }
        }

        static void fillJoin(int[] made, int[] left, int[] right, int events) {
            for (int a = 0; a < events; a++) {
                made[a] = 0;
                for (int between = 0; between < events; between++) {
                    if ((left[a] & (1 << between)) != 0) {
                        made[a] |= right[between];
                    }
                }
            }
        }

        static void fillTurn(int[] made, int[] turned, int events) {
            for (int a = 0; a < events; a++) {
                made[a] = 0;
                for (int b = 0; b < events; b++) {
                    if ((turned[b] & (1 << a)) != 0) {
                        made[a] |= 1 << b;
                    }
                }
            }
        }

        static void fillClosure(int[] made, int[] closed, int events) {
            for (int a = 0; a < events; a++) {
                made[a] = closed[a];
            }
            for (int between = 0; between < events; between++) {
                for (int a = 0; a < events; a++) {
                    if ((made[a] & (1 << between)) != 0) {
                        made[a] |= made[between];
                    }
                }
            }
        }

        /** Takes away events that lead to none that is left: a ring is what stays. */
        static boolean hasRing(int[] row, int events) {
            int left = (1 << events) - 1;
            for (int round = 0; round < events && left != 0; round++) {
                int before = left;
                for (int a = events - 1; a >= 0; a--) {
                    if ((row[a] & left) == 0) {
                        left &= ~(1 << a);
                    }
                }
                if (left == before) {
                    return true;
                }
            }
            return false;
        }

        static int leadingInto(int[] row, int mask, int events) {
            int leading = 0;
            for (int a = 0; a < events; a++) {
                if ((row[a] & mask) != 0) {
                    leading |= 1 << a;
                }
            }
            return leading;
        }

        /** The member of a mask that has so many lower ones; callers know that there is one. */
        static int memberAt(int mask, int lower) {
            int passed = 0;
            for (int a = 0; a < MAX_EVENTS; a++) {
                if ((mask & (1 << a)) != 0) {
                    if (passed == lower) {
                        return a;
                    }
                    passed++;
                }
            }
            return 0;
        }
    }

    /** The shortest ring of a relation. */
    private static final class Ring {
        int length;
        final int[] members = new int[MAX_EVENTS];
        private final int[] reaching = new int[MAX_EVENTS + 1];

        void find(int[] row, int events) {
            length = 0;
            for (int start = 0; start < events; start++) {
                int steps = stepsAround(row, start, events);
                if (steps != 0 && (length == 0 || steps < length)) {
                    length = steps;
                    members[0] = start;
                }
            }
            if (length > 1) {
                follow(row, events);
            }
        }

        /** How few steps lead from an event to itself, 0 if none do; keeps what leads to it. */
        private int stepsAround(int[] row, int start, int events) {
            reaching[0] = 1 << start;
            for (int steps = 1; steps <= events; steps++) {
                reaching[steps] = Rows.leadingInto(row, reaching[steps - 1], events);
                if ((reaching[steps] & (1 << start)) != 0) {
                    return steps;
                }
            }
            return 0;
        }

        private void follow(int[] row, int events) {
            stepsAround(row, members[0], events);
            for (int i = 1; i < length; i++) {
                members[i] = Rows.memberAt(row[members[i - 1]] & reaching[length - i], 0);
            }
        }
    }

    /**
     * The outcomes of the latest run. The values that a place can give are ranked, so that an
     * outcome is a number whose digits are the ranks of what is read: these numbers stay below
     * the number of executions, and go in the order of the outcomes.
     */
    private static final class Listing {
        int executions;
        int allowed;
        int outcomes;
        int reads;
        final int[] totals = new int[MAX_EXECUTIONS];
        final int[] firsts = new int[MAX_EXECUTIONS];
        private final int[] numbers = new int[MAX_EXECUTIONS];
        private final int[] readPlaces = new int[MAX_EVENTS];
        private final int[] valueCounts = new int[PLACES];
        private final int[][] values = new int[PLACES][MAX_EVENTS + 1];
        private final int[][] ranks = new int[PLACES][MAX_EVENTS + 1];

        void begin(Program program, int executionCount) {
            executions = executionCount;
            allowed = 0;
            outcomes = 0;
            reads = program.reads;
            for (int i = 0; i < reads; i++) {
                readPlaces[i] = program.placeRead(i);
            }
            for (int place = 0; place < PLACES; place++) {
                rankValues(program, place);
            }
            for (int number = 0; number < executions; number++) {
                totals[number] = 0;
            }
        }

        void addAllowed(int execution, int[] picks) {
            int number = 0;
            for (int i = 0; i < reads; i++) {
                int place = readPlaces[i];
                number = number * valueCounts[place] + ranks[place][picks[i]];
            }
            if (totals[number] == 0) {
                firsts[number] = execution;
            }
            totals[number]++;
            allowed++;
        }

        /** Moves what was found to the front; no outcome moves past one still to be moved. */
        void finish() {
            for (int number = 0; number < executions; number++) {
                if (totals[number] != 0) {
                    numbers[outcomes] = number;
                    totals[outcomes] = totals[number];
                    firsts[outcomes] = firsts[number];
                    outcomes++;
                }
            }
        }

        int valueRead(int k, int i) {
            int rest = numbers[k];
            for (int later = reads - 1; later > i; later--) {
                rest /= countAt(later);
            }
            return values[readPlaces[i]][rest % countAt(i)];
        }

        /** At least 1: every place can give the beginning's value. */
        private int countAt(int i) {
            return Math.max(1, valueCounts[readPlaces[i]]);
        }

        private void rankValues(Program program, int place) {
            values[place][0] = 0;
            valueCounts[place] = 1;
            int writes = program.writeCounts[place];
            for (int i = 0; i < writes; i++) {
                insertValue(place, program.valueOf[program.writeEvents[place][i]]);
            }
            ranks[place][0] = rankOf(place, 0);
            for (int i = 0; i < writes; i++) {
                ranks[place][i + 1] = rankOf(place, program.valueOf[program.writeEvents[place][i]]);
            }
        }

        private void insertValue(int place, int value) {
            int at = rankOf(place, value);
            int[] sorted = values[place];
            if (at < valueCounts[place] && sorted[at] == value) {
                return;
            }
            for (int i = valueCounts[place]; i > at; i--) {
                sorted[i] = sorted[i - 1];
            }
            sorted[at] = value;
            valueCounts[place]++;
        }

        private int rankOf(int place, int value) {
            int lower = 0;
            for (int i = 0; i < valueCounts[place]; i++) {
                if (values[place][i] < value) {
                    lower++;
                }
            }
            return lower;
        }
    }
}
