import java.util.Arrays;

/**
 * A search for an answer that meets all clauses: choices in order, units, rows learned from first
 * common causes, assumptions with cores, answers barred one after the other, a count of steps.
 *
 * <p>Inside, a literal is one number: 2 times its thing, and 1 when it says true. So literal ^ 1 is
 * its opposite, and literal >> 1 its thing.
 */
public final class ClauseSearch {

    private static final int MOST_THINGS = 300;
    private static final int MOST_CLAUSES = 1_500;
    private static final int MOST_LITERALS = 20_000;
    private static final int MOST_IN_A_CLAUSE = 60;
    private static final int MOST_ASSUMPTIONS = 40;
    private static final int GREATEST_CODE = 65_535;

    /** Each row learned is followed by at most MOST_THINGS turns: some 452,000 at the very most. */
    private static final int MOST_TURNS = 1_000_000;

    private static final int NONE = -1;

    private static final int ANSWERED = 0;
    private static final int TOLD = 1;
    private static final int NO_ANSWER = 2;
    private static final int SPENT = 3;

    /** No STATE of the document: the search has not come to an end yet. */
    private static final int GOING = 4;

    private final int thingCount;
    private final Store store;
    private final Places places;
    private final Assumptions assumptions;
    private final Trail trail;
    private final Search search;

    /** The latest clause of clause(): the only one that may still get literals. */
    private int handMade;

    private int status;

    public ClauseSearch(int things) {
        thingCount = Math.max(1, Math.min(MOST_THINGS, things));
        store = new Store(thingCount);
        places = new Places(thingCount);
        assumptions = new Assumptions();
        Tally tally = new Tally(store);
        trail = new Trail(thingCount, tally);
        search = new Search(thingCount, store, trail, tally, assumptions);
        handMade = NONE;
        status = TOLD;
    }

    public int clause() {
        if (!store.hasRoom(1, 0)) {
            return NONE;
        }
        handMade = store.open();
        status = TOLD;
        return handMade;
    }

    public boolean literal(int clause, int thing, boolean truth) {
        if (!isStillOpen(clause) || !isThing(thing)) {
            return false;
        }
        int literal = literalOf(thing, truth);
        if (store.sizeOf(clause) >= MOST_IN_A_CLAUSE
                || !store.hasRoom(0, 1)
                || store.holds(clause, literal)) {
            return false;
        }
        store.append(literal);
        status = TOLD;
        return true;
    }

    public boolean kernel(int thing, int place, int symbol) {
        if (!isThing(thing) || !isCode(place) || !isCode(symbol)) {
            return false;
        }
        if (places.isTold(thing) || places.isTaken(place, symbol)) {
            return false;
        }
        int others = places.countAt(place);
        if (!store.hasRoom(others, 2 * others)) {
            return false;
        }
        for (int other = 0; other < thingCount; other++) {
            if (places.isAt(other, place)) {
                store.open();
                store.append(literalOf(other, false));
                store.append(literalOf(thing, false));
            }
        }
        places.tell(thing, place, symbol);
        status = TOLD;
        return true;
    }

    public int run(long steps) {
        search.begin();
        status = search.advance(steps);
        return status;
    }

    public boolean goOn(long steps) {
        if (status != SPENT) {
            return false;
        }
        status = search.advance(steps);
        return status != SPENT;
    }

    public boolean truth(int thing) {
        return status == ANSWERED && isThing(thing) && trail.holds(literalOf(thing, true));
    }

    public boolean block() {
        if (status != ANSWERED || !store.hasRoom(1, thingCount)) {
            return false;
        }
        store.open();
        for (int thing = 0; thing < thingCount; thing++) {
            store.append(trail.refusedLiteralOf(thing));
        }
        status = TOLD;
        return true;
    }

    public boolean assume(int thing, boolean truth) {
        if (!isThing(thing) || assumptions.isFull() || assumptions.concerns(thing)) {
            return false;
        }
        assumptions.append(literalOf(thing, truth));
        status = TOLD;
        return true;
    }

    public void freely() {
        assumptions.clear();
        status = TOLD;
    }

    public int core(int k) {
        return status == NO_ANSWER ? search.coreLiteral(k) : NONE;
    }

    public int rows() {
        return search.rowCount;
    }

    public int row(int k, int i) {
        int number = search.numberOfRow(k);
        if (number < 0 || i < 0 || i >= store.sizeOf(number)) {
            return NONE;
        }
        return store.literals[store.startOf(number) + i];
    }

    public int numberOf(int k) {
        return search.numberOfRow(k);
    }

    public long used() {
        return search.stepsUsed;
    }

    public int state() {
        return status;
    }

    public int clauses() {
        return store.clauseCount;
    }

    private boolean isThing(int thing) {
        return thing >= 0 && thing < thingCount;
    }

    private boolean isStillOpen(int clause) {
        return clause >= 0 && clause == handMade && clause == store.clauseCount - 1;
    }

    private static boolean isCode(int number) {
        return number >= 0 && number <= GREATEST_CODE;
    }

    private static int literalOf(int thing, boolean truth) {
        return 2 * thing + (truth ? 1 : 0);
    }

    /**
     * Arrays grow as they are needed, since most objects never come near the document's limits and
     * all objects of a run share one room.
     */
    private static int[] withRoomFor(int[] array, int length, int most) {
        if (length <= array.length) {
            return array;
        }
        return Arrays.copyOf(array, Math.max(length, Math.min(most, 2 * array.length)));
    }

    /**
     * All clauses with their literals. Only the clause that came last ever grows, so the literals of
     * a clause stand side by side. The slots of equal literals are chained, so that a literal that
     * comes to the trail finds the clauses it concerns.
     */
    private static final class Store {
        int clauseCount;
        int literalCount;
        int[] literals;
        int[] owners;
        int[] nextAlike;
        final int[] firstAlike;
        private int[] starts;

        Store(int things) {
            clauseCount = 0;
            literalCount = 0;
            literals = new int[32];
            owners = new int[32];
            nextAlike = new int[32];
            firstAlike = new int[2 * things];
            Arrays.fill(firstAlike, NONE);
            starts = new int[16];
        }

        boolean hasRoom(int moreClauses, int moreLiterals) {
            return clauseCount + moreClauses <= MOST_CLAUSES
                    && literalCount + moreLiterals <= MOST_LITERALS;
        }

        int open() {
            if (!hasRoom(1, 0)) {
                return NONE;
            }
            starts = withRoomFor(starts, clauseCount + 1, MOST_CLAUSES);
            starts[clauseCount] = literalCount;
            clauseCount++;
            return clauseCount - 1;
        }

        /** The literal comes to the clause that came last. */
        void append(int literal) {
            if (clauseCount == 0 || !hasRoom(0, 1) || literal < 0 || literal >= firstAlike.length) {
                return;
            }
            literals = withRoomFor(literals, literalCount + 1, MOST_LITERALS);
            owners = withRoomFor(owners, literalCount + 1, MOST_LITERALS);
            nextAlike = withRoomFor(nextAlike, literalCount + 1, MOST_LITERALS);
            literals[literalCount] = literal;
            owners[literalCount] = clauseCount - 1;
            nextAlike[literalCount] = firstAlike[literal];
            firstAlike[literal] = literalCount;
            literalCount++;
        }

        int startOf(int clause) {
            return clause >= 0 && clause < clauseCount ? starts[clause] : literalCount;
        }

        int endOf(int clause) {
            return clause >= 0 && clause + 1 < clauseCount ? starts[clause + 1] : literalCount;
        }

        int sizeOf(int clause) {
            return endOf(clause) - startOf(clause);
        }

        boolean holds(int clause, int literal) {
            int end = endOf(clause);
            for (int slot = startOf(clause); slot < end; slot++) {
                if (literals[slot] == literal) {
                    return true;
                }
            }
            return false;
        }
    }

    /** What kernel() was told: a place and a symbol for each thing, or none. */
    private static final class Places {
        private final int[] placeOf;
        private final int[] symbolOf;

        Places(int things) {
            placeOf = new int[things];
            symbolOf = new int[things];
            Arrays.fill(placeOf, NONE);
            Arrays.fill(symbolOf, NONE);
        }

        boolean isTold(int thing) {
            return placeOf[thing] != NONE;
        }

        boolean isAt(int thing, int place) {
            return placeOf[thing] == place;
        }

        boolean isTaken(int place, int symbol) {
            for (int thing = 0; thing < placeOf.length; thing++) {
                if (placeOf[thing] == place && symbolOf[thing] == symbol) {
                    return true;
                }
            }
            return false;
        }

        int countAt(int place) {
            int count = 0;
            for (int thing = 0; thing < placeOf.length; thing++) {
                if (placeOf[thing] == place) {
                    count++;
                }
            }
            return count;
        }

        void tell(int thing, int place, int symbol) {
            placeOf[thing] = place;
            symbolOf[thing] = symbol;
        }
    }

    /** The literals that are assumed, in their order. */
    private static final class Assumptions {
        int count;
        final int[] literals;

        Assumptions() {
            count = 0;
            literals = new int[MOST_ASSUMPTIONS];
        }

        boolean isFull() {
            return count >= MOST_ASSUMPTIONS;
        }

        boolean concerns(int thing) {
            for (int a = 0; a < count; a++) {
                if (literals[a] >> 1 == thing) {
                    return true;
                }
            }
            return false;
        }

        void append(int literal) {
            if (isFull()) {
                return;
            }
            literals[count] = literal;
            count++;
        }

        void clear() {
            count = 0;
        }
    }

    /**
     * Which clauses are DEAD and which are UNIT at the trail: counted on as literals come and go, for
     * looking through all clauses at every turn would be too dear.
     */
    private static final class Tally {
        private static final int WORDS = (MOST_CLAUSES + 63) / 64;

        private final Store store;
        private final long[] dead;
        private final long[] unit;
        private int[] metBy;
        private int[] notFailed;

        Tally(Store store) {
            this.store = store;
            dead = new long[WORDS];
            unit = new long[WORDS];
            metBy = new int[16];
            notFailed = new int[16];
        }

        /** Counts anew for an empty trail: clauses may have come or grown since the last search. */
        void restart() {
            makeRoom();
            for (int clause = 0; clause < store.clauseCount; clause++) {
                metBy[clause] = 0;
                notFailed[clause] = store.sizeOf(clause);
                judge(clause);
            }
        }

        /** The clause that came last did so during the search, and is dead at the trail. */
        void enterDead() {
            makeRoom();
            if (store.clauseCount > 0) {
                metBy[store.clauseCount - 1] = 0;
                notFailed[store.clauseCount - 1] = 0;
                judge(store.clauseCount - 1);
            }
        }

        /** A literal comes to the trail (by is 1) or goes from it (by is -1). */
        void move(int literal, int by) {
            int slot = store.firstAlike[literal];
            for (int n = 0; n < store.literalCount && slot >= 0; n++) {
                int clause = store.owners[slot];
                metBy[clause] += by;
                judge(clause);
                slot = store.nextAlike[slot];
            }
            slot = store.firstAlike[literal ^ 1];
            for (int n = 0; n < store.literalCount && slot >= 0; n++) {
                int clause = store.owners[slot];
                notFailed[clause] -= by;
                judge(clause);
                slot = store.nextAlike[slot];
            }
        }

        int leastDead() {
            return least(dead);
        }

        int leastUnit() {
            return least(unit);
        }

        private void makeRoom() {
            metBy = withRoomFor(metBy, store.clauseCount, MOST_CLAUSES);
            notFailed = withRoomFor(notFailed, store.clauseCount, MOST_CLAUSES);
        }

        private void judge(int clause) {
            boolean met = metBy[clause] > 0;
            int word = clause >> 6;
            long bit = 1L << (clause & 63);
            dead[word] = !met && notFailed[clause] == 0 ? dead[word] | bit : dead[word] & ~bit;
            unit[word] = !met && notFailed[clause] == 1 ? unit[word] | bit : unit[word] & ~bit;
        }

        private static int least(long[] set) {
            for (int word = 0; word < set.length; word++) {
                if (set[word] != 0) {
                    long lowest = set[word] & -set[word];
                    return 64 * word + Long.bitCount(lowest - 1);
                }
            }
            return NONE;
        }
    }

    /** THE TRAIL, with the LEVEL and the CAUSE of each of its things. */
    private static final class Trail {
        int length;
        int level;
        final int[] literals;
        private final Tally tally;
        private final int[] literalOn;
        private final int[] levels;
        private final int[] causes;

        Trail(int things, Tally tally) {
            this.tally = tally;
            length = 0;
            level = 0;
            literals = new int[things];
            literalOn = new int[things];
            levels = new int[things];
            causes = new int[things];
            Arrays.fill(literalOn, NONE);
        }

        void restart() {
            length = 0;
            level = 0;
            Arrays.fill(literalOn, NONE);
            tally.restart();
        }

        void put(int literal, int cause) {
            int thing = literal >> 1;
            if (thing < 0 || thing >= literalOn.length || length >= literals.length) {
                return;
            }
            literals[length] = literal;
            length++;
            literalOn[thing] = literal;
            levels[thing] = level;
            causes[thing] = cause;
            tally.move(literal, 1);
        }

        /** Levels never fall along the trail, so what goes is its end. */
        void cutAbove(int greatest) {
            for (int at = length - 1; at >= 0 && levels[literals[at] >> 1] > greatest; at--) {
                literalOn[literals[at] >> 1] = NONE;
                tally.move(literals[at], -1);
                length = at;
            }
            level = greatest;
        }

        boolean holds(int literal) {
            return literalOn[literal >> 1] == literal;
        }

        boolean has(int thing) {
            return literalOn[thing] != NONE;
        }

        /** The literal of a thing that is opposite to what the trail has of it. */
        int refusedLiteralOf(int thing) {
            return literalOn[thing] ^ 1;
        }

        int levelOf(int thing) {
            return levels[thing];
        }

        int causeOf(int thing) {
            return causes[thing];
        }

        int leastAbsent() {
            for (int thing = 0; thing < literalOn.length; thing++) {
                if (literalOn[thing] == NONE) {
                    return thing;
                }
            }
            return NONE;
        }
    }

    /** THE SEARCH: where it stands, what it learned, and the CORE when assumptions failed. */
    private static final class Search {
        int rowCount;
        long stepsUsed;
        private final int thingCount;
        private final Store store;
        private final Trail trail;
        private final Tally tally;
        private final Assumptions assumptions;
        private final int[] marks;
        private final int[] core;
        private int coreCount;
        private int[] rowNumbers;
        private long stepsLeft;

        Search(int things, Store store, Trail trail, Tally tally, Assumptions assumptions) {
            thingCount = things;
            this.store = store;
            this.trail = trail;
            this.tally = tally;
            this.assumptions = assumptions;
            marks = new int[things];
            core = new int[MOST_ASSUMPTIONS];
            coreCount = 0;
            rowNumbers = new int[16];
            rowCount = 0;
            stepsUsed = 0;
            stepsLeft = 0;
        }

        int coreLiteral(int k) {
            return k >= 0 && k < coreCount ? core[k] : NONE;
        }

        int numberOfRow(int k) {
            return k >= 0 && k < rowCount ? rowNumbers[k] : NONE;
        }

        void begin() {
            trail.restart();
            coreCount = 0;
            stepsUsed = 0;
        }

        /** The STATE in which the search ends or, with its STEPS gone, stops. */
        int advance(long steps) {
            stepsLeft = Math.max(0, steps);
            for (int turn = 0; turn < MOST_TURNS; turn++) {
                int outcome = takeTurn();
                if (outcome != GOING) {
                    return outcome;
                }
            }
            return SPENT;
        }

        private int takeTurn() {
            int dead = tally.leastDead();
            if (dead >= 0) {
                return trail.level == 0 ? NO_ANSWER : learnFrom(dead);
            }
            int unit = tally.leastUnit();
            if (unit >= 0) {
                return follow(unit);
            }
            int pending = firstPendingAssumption();
            if (pending >= 0) {
                int literal = assumptions.literals[pending];
                return trail.holds(literal ^ 1) ? failBy(pending) : decide(literal);
            }
            int thing = trail.leastAbsent();
            return thing >= 0 ? decide(literalOf(thing, false)) : ANSWERED;
        }

        private int follow(int unit) {
            int end = store.endOf(unit);
            for (int slot = store.startOf(unit); slot < end; slot++) {
                int literal = store.literals[slot];
                if (!trail.has(literal >> 1)) {
                    trail.put(literal, unit);
                    return GOING;
                }
            }
            return GOING;
        }

        private int firstPendingAssumption() {
            for (int a = 0; a < assumptions.count; a++) {
                if (!trail.holds(assumptions.literals[a])) {
                    return a;
                }
            }
            return NONE;
        }

        private int failBy(int assumption) {
            findCore(assumption);
            return NO_ANSWER;
        }

        private int decide(int literal) {
            if (stepsLeft <= 0) {
                return SPENT;
            }
            countStep();
            trail.level++;
            trail.put(literal, NONE);
            return GOING;
        }

        private void countStep() {
            stepsLeft--;
            stepsUsed++;
        }

        private int learnFrom(int dead) {
            if (stepsLeft <= 0) {
                return SPENT;
            }
            markRow(dead);
            if (!store.hasRoom(1, countMarks())) {
                return SPENT;
            }
            countStep();
            int turned = storeRow();
            // Before the cut, so that the cut counts the row's literals like all others.
            tally.enterDead();
            trail.cutAbove(greatestLevelBut(turned >> 1));
            trail.put(turned, store.clauseCount - 1);
            return GOING;
        }

        /** Marks the things of the row that the dead clause leads to. */
        private void markRow(int dead) {
            Arrays.fill(marks, 0);
            int present = markOthers(dead, NONE);
            for (int at = trail.length - 1; at >= 0 && present >= 2; at--) {
                int thing = trail.literals[at] >> 1;
                int cause = trail.causeOf(thing);
                if (marks[thing] == 1 && cause >= 0) {
                    marks[thing] = 0;
                    present += markOthers(cause, thing) - 1;
                }
            }
        }

        /** How many things of the present level it marked that were not marked before. */
        private int markOthers(int clause, int but) {
            int present = 0;
            int end = store.endOf(clause);
            for (int slot = store.startOf(clause); slot < end; slot++) {
                int thing = store.literals[slot] >> 1;
                if (thing != but && marks[thing] == 0) {
                    marks[thing] = 1;
                    present += trail.levelOf(thing) == trail.level ? 1 : 0;
                }
            }
            return present;
        }

        private int countMarks() {
            int count = 0;
            for (int thing = 0; thing < thingCount; thing++) {
                count += marks[thing];
            }
            return count;
        }

        /** The row comes as a clause; the answer is its one literal of the present level. */
        private int storeRow() {
            rowNumbers = withRoomFor(rowNumbers, rowCount + 1, MOST_CLAUSES);
            rowNumbers[rowCount] = store.open();
            rowCount++;
            int turned = NONE;
            for (int thing = 0; thing < thingCount; thing++) {
                if (marks[thing] == 1) {
                    int literal = trail.refusedLiteralOf(thing);
                    store.append(literal);
                    turned = trail.levelOf(thing) == trail.level ? literal : turned;
                }
            }
            return turned;
        }

        private int greatestLevelBut(int but) {
            int greatest = 0;
            for (int thing = 0; thing < thingCount; thing++) {
                if (marks[thing] == 1 && thing != but) {
                    greatest = Math.max(greatest, trail.levelOf(thing));
                }
            }
            return greatest;
        }

        /** A thing's causes stand before it on the trail, so one walk back finds them all. */
        private void findCore(int failed) {
            Arrays.fill(marks, 0);
            marks[assumptions.literals[failed] >> 1] = 1;
            for (int at = trail.length - 1; at >= 0; at--) {
                int thing = trail.literals[at] >> 1;
                if (marks[thing] == 1 && trail.causeOf(thing) >= 0) {
                    markOthers(trail.causeOf(thing), thing);
                }
            }
            coreCount = 0;
            for (int a = 0; a < assumptions.count; a++) {
                int thing = assumptions.literals[a] >> 1;
                // An assumption that itself came of a CAUSE is only on the way to the core.
                if (a == failed || (marks[thing] == 1 && trail.causeOf(thing) < 0)) {
                    core[coreCount] = assumptions.literals[a];
                    coreCount++;
                }
            }
        }
    }
}
