/**
 * For each promise of the document: ordinary inputs, the edges it names, and wrong inputs. Boundary by
 * boundary they are tried in BoundaryTests, RoomTests and RefusedCalls.
 */
public final class PromiseTests extends Due {
    public static void main(String[] args) {
        newObject();
        clauseComes();
        literalComes();
        literalFindsNoRoom();
        kernelMakesPairs();
        kernelGoesByThings();
        kernelRefuses();
        kernelFindsNoRoom();
        runSearches();
        runLearns();
        runLooksAtLeastNumbers();
        runCutsTheTrail();
        goOnGoesOn();
        truthOfTheAnswer();
        blockBarsAnswers();
        blockFindsNoRoom();
        assumeSupposes();
        freelyForgets();
        coreTellsWhy();
        rowsAreKept();
        rowsFindNoRoom();
        usedCounts();
        stateTells();
        clausesCount();
        end();
    }

    private static void newObject() {
        promise = 1;
        ClauseSearch x = new ClauseSearch(5);
        due("clauses()", x.clauses(), 0);
        due("state()", x.state(), 1);
        due("rows()", x.rows(), 0);
        due("used()", x.used(), 0);
        due("run(100)", x.run(100), 0);
        due("used(): a choice for each thing", x.used(), 5);
        int[][] held = {{-1, 1}, {0, 1}, {1, 1}, {2, 2}, {299, 299}, {300, 300}, {301, 300},
                {Integer.MAX_VALUE, 300}, {Integer.MIN_VALUE, 1}};
        for (int[] pair : held) {
            x = new ClauseSearch(pair[0]);
            due("assume(last thing) of " + pair[0], x.assume(pair[1] - 1, true), true);
            due("assume(behind the last) of " + pair[0], x.assume(pair[1], true), false);
            x.freely();
            x.run(1000);
            due("used() of " + pair[0], x.used(), pair[1]);
        }
    }

    private static void clauseComes() {
        promise = 2;
        ClauseSearch x = new ClauseSearch(3);
        x.assume(1, true);
        due("run(9)", x.run(9), 0);
        due("clause()", x.clause(), 0);
        due("state()", x.state(), 1);
        due("run(9): a clause without literals can't be met", x.run(9), 2);
        due("used()", x.used(), 0);
        due("literal(0, 1, true)", x.literal(0, 1, true), true);
        due("run(9)", x.run(9), 0);
        due("clause()", x.clause(), 1);
        due("literal(1, 1, false)", x.literal(1, 1, false), true);
        due("run(9)", x.run(9), 2);
        due("core(0): at level 0 there is none", x.core(0), -1);
        x = new ClauseSearch(3);
        x.assume(1, true);
        x.clause();
        x.literal(0, 1, false);
        due("run(9)", x.run(9), 2);
        due("core(0): assumptions stay", x.core(0), 3);
        x = full();
        due("run(0)", x.run(0), 3);
        due("clause() without room", x.clause(), -1);
        due("state() after it", x.state(), 3);
        due("clauses() after it", x.clauses(), 1500);
    }

    /** 1,500 clauses: 1,485 of kernel(), 15 more of clause(). */
    private static ClauseSearch full() {
        ClauseSearch x = new ClauseSearch(100);
        for (int thing = 0; thing < 55; thing++) {
            x.kernel(thing, 0, thing);
        }
        for (int c = 1485; c < 1500; c++) {
            due("clause()", x.clause(), c);
            x.literal(c, 60, true);
            x.literal(c, 61, true);
        }
        return x;
    }

    private static void literalComes() {
        promise = 3;
        ClauseSearch x = new ClauseSearch(4);
        due("literal(-1, 0, true) without a clause", x.literal(-1, 0, true), false);
        due("literal(0, 0, true) without a clause", x.literal(0, 0, true), false);
        due("clause()", x.clause(), 0);
        due("literal(0, 0, true)", x.literal(0, 0, true), true);
        due("literal(0, 0, true) again", x.literal(0, 0, true), false);
        due("literal(0, 0, false): both of a thing", x.literal(0, 0, false), true);
        due("literal(0, -1, true)", x.literal(0, -1, true), false);
        due("literal(0, 4, true)", x.literal(0, 4, true), false);
        due("literal(1, 1, true)", x.literal(1, 1, true), false);
        due("literal(-1, 1, true)", x.literal(-1, 1, true), false);
        due("literal(min, 1, true)", x.literal(Integer.MIN_VALUE, 1, true), false);
        due("literal(0, max, true)", x.literal(0, Integer.MAX_VALUE, true), false);
        due("run(9)", x.run(9), 0);
        due("literal(0, 0, true) refused", x.literal(0, 0, true), false);
        due("state(): nothing was done", x.state(), 0);
        due("literal(0, 1, true) after a search", x.literal(0, 1, true), true);
        due("state()", x.state(), 1);
        due("clause()", x.clause(), 1);
        due("literal(0, 2, true): not the last", x.literal(0, 2, true), false);
        due("kernel(0, 0, 0) makes no clause", x.kernel(0, 0, 0), true);
        due("literal(1, 2, true)", x.literal(1, 2, true), true);
        due("kernel(1, 0, 1) makes one", x.kernel(1, 0, 1), true);
        due("literal(1, 3, true)", x.literal(1, 3, true), false);
        due("literal(2, 3, true): a clause of kernel()", x.literal(2, 3, true), false);
        due("clause()", x.clause(), 3);
        due("literal(3, 3, true)", x.literal(3, 3, true), true);
        due("run(9)", x.run(9), 0);
        due("block()", x.block(), true);
        due("literal(4, 3, true): a clause of block()", x.literal(4, 3, true), false);
        due("literal(3, 2, true)", x.literal(3, 2, true), false);
        x = new ClauseSearch(2);
        tell(x, 1, 3);
        tell(x, 1, 2);
        due("run(9) learns", x.run(9), 0);
        due("literal(1, 1, true): a row came", x.literal(1, 1, true), false);
        due("literal(2, 1, true): a row", x.literal(2, 1, true), false);
    }

    private static void literalFindsNoRoom() {
        promise = 3;
        ClauseSearch x = new ClauseSearch(300);
        x.clause();
        for (int thing = 0; thing < 60; thing++) {
            due("literal(0, " + thing + ", true)", x.literal(0, thing, true), true);
        }
        due("run(0)", x.run(0), 3);
        due("literal 61 of a clause", x.literal(0, 60, true), false);
        due("state()", x.state(), 3);
    }

    private static void kernelMakesPairs() {
        promise = 4;
        ClauseSearch x = new ClauseSearch(6);
        due("run(9)", x.run(9), 0);
        due("kernel(3, 5, 1)", x.kernel(3, 5, 1), true);
        due("state(): told, though no clause came", x.state(), 1);
        due("clauses()", x.clauses(), 0);
        due("kernel(1, 5, 2)", x.kernel(1, 5, 2), true);
        due("clauses()", x.clauses(), 1);
        due("kernel(0, 6, 2)", x.kernel(0, 6, 2), true);
        due("clauses(): another place", x.clauses(), 1);
        due("kernel(5, 5, 0)", x.kernel(5, 5, 0), true);
        due("clauses()", x.clauses(), 3);
        int[][] apart = {{1, 3}, {1, 5}, {3, 5}};
        for (int[] pair : apart) {
            x.freely();
            x.assume(pair[0], true);
            x.assume(pair[1], true);
            due("run(9): things of one place", x.run(9), 2);
            dueCore(x, 2 * pair[0] + 1, 2 * pair[1] + 1);
        }
        x.freely();
        x.assume(0, true);
        x.assume(3, true);
        due("run(9): things of two places", x.run(9), 0);
        due("truth(3)", x.truth(3), true);
        due("truth(5)", x.truth(5), false);
    }

    /**
     * Things 2, 0 and 1 are told of, in this order: 1 makes its clause with 0 before that with 2. So
     * with 1 true it is 0 that becomes false first, and the clauses on 0 and 3 that a row is learned of.
     */
    private static void kernelGoesByThings() {
        promise = 4;
        ClauseSearch x = new ClauseSearch(5);
        tell(x, 1, 7);
        tell(x, 1, 6);
        tell(x, 5, 9);
        tell(x, 5, 8);
        x.kernel(2, 0, 0);
        x.kernel(0, 0, 1);
        x.kernel(1, 0, 2);
        due("clauses()", x.clauses(), 7);
        x.assume(1, true);
        due("run(2)", x.run(2), 2);
        due("rows()", x.rows(), 1);
        dueRow(x, 0, 1);
        dueCore(x);
    }

    private static void kernelRefuses() {
        promise = 4;
        ClauseSearch x = new ClauseSearch(6);
        due("kernel(0, 0, 0)", x.kernel(0, 0, 0), true);
        due("kernel(1, 65535, 65535)", x.kernel(1, 65535, 65535), true);
        due("run(9)", x.run(9), 0);
        due("kernel(0, 1, 1): the thing was told", x.kernel(0, 1, 1), false);
        due("kernel(2, 0, 0): place and symbol were told", x.kernel(2, 0, 0), false);
        due("kernel(2, 65535, 65535)", x.kernel(2, 65535, 65535), false);
        due("kernel(-1, 1, 1)", x.kernel(-1, 1, 1), false);
        due("kernel(6, 1, 1)", x.kernel(6, 1, 1), false);
        due("kernel(2, -1, 1)", x.kernel(2, -1, 1), false);
        due("kernel(2, 65536, 1)", x.kernel(2, 65536, 1), false);
        due("kernel(2, 1, -1)", x.kernel(2, 1, -1), false);
        due("kernel(2, 1, 65536)", x.kernel(2, 1, 65536), false);
        due("state(): nothing was done", x.state(), 0);
        due("clauses()", x.clauses(), 0);
        due("kernel(2, 0, 1): a symbol more", x.kernel(2, 0, 1), true);
        due("kernel(3, 1, 0): a place more", x.kernel(3, 1, 0), true);
        due("clauses()", x.clauses(), 1);
    }

    private static void kernelFindsNoRoom() {
        promise = 4;
        ClauseSearch x = new ClauseSearch(300);
        for (int thing = 0; thing < 55; thing++) {
            due("kernel(" + thing + ", 3, " + thing + ")", x.kernel(thing, 3, thing), true);
        }
        due("clauses()", x.clauses(), 1485);
        due("run(0)", x.run(0), 3);
        due("kernel(55, 3, 55): 55 clauses too many", x.kernel(55, 3, 55), false);
        due("state()", x.state(), 3);
        due("clauses(): none of them came", x.clauses(), 1485);
        for (int thing = 100; thing < 106; thing++) {
            due("kernel(" + thing + ", 4, 0)", x.kernel(thing, 4, thing), true);
        }
        due("clauses(): just full", x.clauses(), 1500);
        due("kernel(106, 4, 0)", x.kernel(106, 4, 0), false);
        due("kernel(55, 5, 55) makes no clause", x.kernel(55, 5, 55), true);
        due("kernel(106, 5, 1) would", x.kernel(106, 5, 1), false);
    }

    private static void runSearches() {
        promise = 5;
        ClauseSearch x = new ClauseSearch(3);
        due("run(2)", x.run(2), 3);
        due("run(3)", x.run(3), 0);
        due("truth(0): choices are false", x.truth(0), false);
        due("truth(2)", x.truth(2), false);
        due("run(-1)", x.run(-1), 3);
        due("used()", x.used(), 0);
        due("run(min)", x.run(Long.MIN_VALUE), 3);
        due("run(max)", x.run(Long.MAX_VALUE), 0);
        due("used()", x.used(), 3);
        x = new ClauseSearch(3);
        tell(x, 5);
        tell(x, 4, 1);
        tell(x, 0, 3);
        due("run(0): units need no steps", x.run(0), 0);
        due("truth(0)", x.truth(0), true);
        due("truth(1)", x.truth(1), true);
        due("truth(2)", x.truth(2), true);
        tell(x, 2);
        due("run(0): dead at level 0 needs none either", x.run(0), 2);
        due("rows()", x.rows(), 0);
        x = new ClauseSearch(2);
        tell(x, 1, 0);
        tell(x, 3, 2, 1);
        due("run(2): clauses with both literals of a thing", x.run(2), 0);
        due("used()", x.used(), 2);
        due("truth(1)", x.truth(1), false);
    }

    private static void runLearns() {
        promise = 5;
        ClauseSearch x = new ClauseSearch(2);
        tell(x, 1, 3);
        tell(x, 1, 2);
        due("run(1): the row is one step too many", x.run(1), 3);
        due("rows()", x.rows(), 0);
        due("run(2)", x.run(2), 3);
        due("rows()", x.rows(), 1);
        dueRow(x, 0, 1);
        due("run(0): the row stays, 1 is still to be chosen", x.run(0), 3);
        due("run(1)", x.run(1), 0);
        due("truth(0)", x.truth(0), true);
        due("truth(1)", x.truth(1), false);
        due("rows()", x.rows(), 1);
        due("clauses()", x.clauses(), 3);
    }

    private static void runLooksAtLeastNumbers() {
        promise = 5;
        ClauseSearch x = new ClauseSearch(4);
        tell(x, 3, 5);
        tell(x, 4, 7);
        tell(x, 1, 6, 4);
        tell(x, 6, 4);
        due("run(3)", x.run(3), 3);
        // Not 0, not 1, then 2 and 3; clauses 2 and 3 are dead, and 2 is taken.
        dueRow(x, 0, 1, 4);
        x = new ClauseSearch(3);
        tell(x, 1, 5);
        tell(x, 1, 3);
        tell(x, 2, 4);
        due("run(2)", x.run(2), 3);
        // Not 0, then 2 by clause 0 before 1 by clause 1, and clause 2 is dead with 0 as its cause.
        dueRow(x, 0, 1);
        x = new ClauseSearch(5);
        tell(x, 3, 5);
        tell(x, 4, 7);
        tell(x, 1, 4, 9);
        tell(x, 6, 8);
        due("run(3)", x.run(3), 3);
        // Not 0, not 1, then 2, 3, 4; clause 3 is dead; 2 is the first common cause, not the choice of 1.
        dueRow(x, 0, 1, 4);
        due("run(9)", x.run(9), 0);
        due("truth(1)", x.truth(1), true);
        due("truth(2)", x.truth(2), false);
    }

    /** The dead clause knows of levels 1 and 3 only: what level 2 chose goes too. */
    private static void runCutsTheTrail() {
        promise = 5;
        ClauseSearch x = new ClauseSearch(4);
        tell(x, 1, 5, 7);
        tell(x, 1, 5, 6);
        due("run(4)", x.run(4), 3);
        dueRow(x, 0, 1, 5);
        // Back at level 1 with 2 true by the row: 1 and 3 are to be chosen anew.
        due("goOn(1)", x.goOn(1), false);
        due("goOn(1)", x.goOn(1), true);
        due("used()", x.used(), 6);
        due("truth(2)", x.truth(2), true);
    }

    private static void goOnGoesOn() {
        promise = 6;
        ClauseSearch x = new ClauseSearch(3);
        due("goOn(5) of a new object", x.goOn(5), false);
        due("state()", x.state(), 1);
        due("run(1)", x.run(1), 3);
        due("goOn(0)", x.goOn(0), false);
        due("goOn(-7)", x.goOn(-7), false);
        due("goOn(1)", x.goOn(1), false);
        due("state()", x.state(), 3);
        due("used()", x.used(), 2);
        due("literal refused in between", x.literal(0, 0, true), false);
        due("goOn(max)", x.goOn(Long.MAX_VALUE), true);
        due("state()", x.state(), 0);
        due("used()", x.used(), 3);
        due("goOn(5) of an answer", x.goOn(5), false);
        due("state()", x.state(), 0);
        due("run(1)", x.run(1), 3);
        x.freely();
        due("goOn(5) when something was told", x.goOn(5), false);
        due("state()", x.state(), 1);
        tell(x, 1);
        tell(x, 0);
        due("run(5)", x.run(5), 2);
        due("goOn(5) without an answer", x.goOn(5), false);
        due("state()", x.state(), 2);
        x = new ClauseSearch(2);
        tell(x, 1, 3);
        tell(x, 1, 2);
        tell(x, 0, 3);
        tell(x, 0, 2);
        due("run(1)", x.run(1), 3);
        due("goOn(1) to the end that there is none", x.goOn(1), true);
        due("state()", x.state(), 2);
    }

    private static void truthOfTheAnswer() {
        promise = 7;
        ClauseSearch x = new ClauseSearch(3);
        tell(x, 3);
        due("truth(1) before a search", x.truth(1), false);
        due("run(0)", x.run(0), 3);
        due("truth(1) when spent", x.truth(1), false);
        due("run(9)", x.run(9), 0);
        due("truth(0)", x.truth(0), false);
        due("truth(1)", x.truth(1), true);
        due("truth(2)", x.truth(2), false);
        due("truth(3)", x.truth(3), false);
        due("truth(-1)", x.truth(-1), false);
        due("truth(max)", x.truth(Integer.MAX_VALUE), false);
        due("truth(min)", x.truth(Integer.MIN_VALUE), false);
        x.freely();
        due("truth(1) after something was told", x.truth(1), false);
        tell(x, 2);
        due("run(9)", x.run(9), 2);
        due("truth(1) without an answer", x.truth(1), false);
    }

    private static void blockBarsAnswers() {
        promise = 8;
        ClauseSearch x = new ClauseSearch(3);
        due("block() of a new object", x.block(), false);
        due("run(0)", x.run(0), 3);
        due("block() when spent", x.block(), false);
        due("state()", x.state(), 3);
        int seen = 0;
        for (int n = 0; n < 8; n++) {
            due("run(99), answer " + n, x.run(99), 0);
            seen |= 1 << ((x.truth(0) ? 4 : 0) + (x.truth(1) ? 2 : 0) + (x.truth(2) ? 1 : 0));
            due("block()", x.block(), true);
            due("state()", x.state(), 1);
            due("block() again", x.block(), false);
        }
        due("all answers, each once", seen, 255);
        due("run(99)", x.run(99), 2);
        due("block() without an answer", x.block(), false);
        due("clauses()", x.clauses(), 8 + x.rows());
        x = new ClauseSearch(300);
        due("run(300)", x.run(300), 0);
        due("block() with more than 60 literals", x.block(), true);
        due("run(299): the last one is a unit", x.run(299), 0);
        due("truth(298)", x.truth(298), false);
        due("truth(299)", x.truth(299), true);
    }

    private static void blockFindsNoRoom() {
        promise = 8;
        ClauseSearch x = full();
        due("run(1000)", x.run(1000), 0);
        due("block() without room for a clause", x.block(), false);
        due("state()", x.state(), 0);
    }

    private static void assumeSupposes() {
        promise = 9;
        ClauseSearch x = new ClauseSearch(50);
        due("run(99)", x.run(99), 0);
        due("assume(-1, true)", x.assume(-1, true), false);
        due("assume(50, true)", x.assume(50, true), false);
        due("assume(max, true)", x.assume(Integer.MAX_VALUE, true), false);
        due("state(): nothing was done", x.state(), 0);
        due("assume(49, true)", x.assume(49, true), true);
        due("state()", x.state(), 1);
        due("assume(49, true) again", x.assume(49, true), false);
        due("assume(49, false) the other way", x.assume(49, false), false);
        for (int thing = 0; thing < 39; thing++) {
            due("assume(" + thing + ", false)", x.assume(thing, thing == 7), true);
        }
        due("run(49): an assumption is a step", x.run(49), 3);
        due("run(50)", x.run(50), 0);
        due("truth(49)", x.truth(49), true);
        due("truth(7)", x.truth(7), true);
        due("truth(8)", x.truth(8), false);
        due("assume(39, true): 40 are", x.assume(39, true), false);
        due("state()", x.state(), 0);
        x = new ClauseSearch(3);
        tell(x, 4, 1);
        x.assume(2, true);
        x.assume(0, true);
        due("run(2): what holds already is no step", x.run(2), 0);
        due("used()", x.used(), 2);
    }

    private static void freelyForgets() {
        promise = 10;
        ClauseSearch x = new ClauseSearch(3);
        due("run(9)", x.run(9), 0);
        x.freely();
        due("state()", x.state(), 1);
        tell(x, 0);
        x.assume(0, true);
        x.assume(2, true);
        due("run(9)", x.run(9), 2);
        x.freely();
        due("state()", x.state(), 1);
        due("core(0)", x.core(0), -1);
        due("run(9)", x.run(9), 0);
        due("truth(2)", x.truth(2), false);
        due("assume(0, false) may be said again", x.assume(0, false), true);
    }

    private static void coreTellsWhy() {
        promise = 11;
        ClauseSearch x = new ClauseSearch(8);
        tell(x, 2, 4, 7);
        tell(x, 6, 8);
        due("core(0) of a new object", x.core(0), -1);
        x.assume(0, true);
        x.assume(2, true);
        x.assume(6, false);
        x.assume(1, true);
        x.assume(4, true);
        due("run(99)", x.run(99), 2);
        dueCore(x, 5, 3, 9);
        due("core(-1)", x.core(-1), -1);
        due("core(max)", x.core(Integer.MAX_VALUE), -1);
        due("core(min)", x.core(Integer.MIN_VALUE), -1);
        due("clause()", x.clause(), 2);
        due("core(0) after something was told", x.core(0), -1);
        x.literal(2, 7, true);
        due("run(99)", x.run(99), 2);
        dueCore(x, 5, 3, 9);
        due("run(1)", x.run(1), 3);
        due("core(0) when spent", x.core(0), -1);
        coreByLevelNoughtAndRows();
        coreOfOrigins();
    }

    private static void coreByLevelNoughtAndRows() {
        ClauseSearch x = new ClauseSearch(3);
        tell(x, 2);
        x.assume(0, true);
        x.assume(1, true);
        due("run(9)", x.run(9), 2);
        dueCore(x, 3);
        x.freely();
        x.assume(1, true);
        due("run(0): the first assumption fails at level 0", x.run(0), 2);
        dueCore(x, 3);
        tell(x, 3);
        due("run(9): dead at level 0", x.run(9), 2);
        dueCore(x);
        x = new ClauseSearch(4);
        tell(x, 0, 2, 7);
        tell(x, 0, 2, 6);
        x.assume(2, true);
        x.assume(1, true);
        x.assume(0, true);
        due("run(9): by a row that was learned", x.run(9), 2);
        dueRow(x, 0, 0, 2);
        dueCore(x, 3, 1);
    }

    /** The opposite of 2 comes of 1, which was assumed too, but itself came of 0. */
    private static void coreOfOrigins() {
        ClauseSearch x = new ClauseSearch(3);
        tell(x, 0, 3);
        tell(x, 2, 4);
        x.assume(0, true);
        x.assume(1, true);
        x.assume(2, true);
        due("run(9)", x.run(9), 2);
        dueCore(x, 1, 5);
    }

    private static void rowsAreKept() {
        promise = 12;
        ClauseSearch x = new ClauseSearch(4);
        tell(x, 7);
        tell(x, 6, 1, 3, 5);
        tell(x, 6, 1, 3, 4);
        due("rows()", x.rows(), 0);
        due("row(0, 0)", x.row(0, 0), -1);
        due("numberOf(0)", x.numberOf(0), -1);
        due("run(99)", x.run(99), 0);
        due("rows()", x.rows(), 1);
        promise = 13;
        // What holds at level 0 stays in the row: not 3.
        dueRow(x, 0, 1, 3, 6);
        due("row(0, -1)", x.row(0, -1), -1);
        due("row(0, max)", x.row(0, Integer.MAX_VALUE), -1);
        due("row(0, min)", x.row(0, Integer.MIN_VALUE), -1);
        due("row(-1, 0)", x.row(-1, 0), -1);
        due("row(1, 0)", x.row(1, 0), -1);
        due("row(max, 0)", x.row(Integer.MAX_VALUE, 0), -1);
        promise = 14;
        due("numberOf(0)", x.numberOf(0), 3);
        due("numberOf(1)", x.numberOf(1), -1);
        due("numberOf(-1)", x.numberOf(-1), -1);
        due("numberOf(max)", x.numberOf(Integer.MAX_VALUE), -1);
        tell(x, 0);
        tell(x, 2);
        due("run(99)", x.run(99), 2);
        promise = 12;
        due("rows(): they stay", x.rows(), 1);
        dueRow(x, 0, 1, 3, 6);
        promise = 14;
        due("numberOf(0)", x.numberOf(0), 3);
    }

    /** A row for which there is no room is not learned, however many STEPS there are. */
    private static void rowsFindNoRoom() {
        promise = 5;
        ClauseSearch x = new ClauseSearch(100);
        for (int thing = 0; thing < 55; thing++) {
            x.kernel(thing, 0, thing);
        }
        tell(x, 121, 123);
        tell(x, 121, 122);
        for (int c = 0; c < 12; c++) {
            tell(x, 125, 127);
        }
        due("clauses()", x.clauses(), 1499);
        due("run(1000) has room for one row", x.run(1000), 0);
        due("rows()", x.rows(), 1);
        dueRow(x, 0, 121);
        x = new ClauseSearch(100);
        for (int thing = 0; thing < 55; thing++) {
            x.kernel(thing, 0, thing);
        }
        tell(x, 121, 123);
        tell(x, 121, 122);
        for (int c = 0; c < 13; c++) {
            tell(x, 125, 127);
        }
        due("clauses()", x.clauses(), 1500);
        due("run(1000) has room for none", x.run(1000), 3);
        due("rows()", x.rows(), 0);
        due("used(): choices for 0 to 60", x.used(), 61);
        due("goOn(1000)", x.goOn(1000), false);
        due("used()", x.used(), 61);
        due("state()", x.state(), 3);
        due("clauses()", x.clauses(), 1500);
    }

    private static void usedCounts() {
        promise = 15;
        ClauseSearch x = new ClauseSearch(3);
        due("used()", x.used(), 0);
        x.run(2);
        due("used()", x.used(), 2);
        x.goOn(5);
        due("used(): with what went on", x.used(), 3);
        x.freely();
        due("used(): of the latest run()", x.used(), 3);
        x.run(1);
        due("used(): counted anew", x.used(), 1);
        x = new ClauseSearch(2);
        tell(x, 1, 3);
        tell(x, 1, 2);
        due("run(99)", x.run(99), 0);
        due("used(): a choice, a row, a choice", x.used(), 3);
    }

    private static void stateTells() {
        promise = 16;
        ClauseSearch x = new ClauseSearch(3);
        due("state() of a new object", x.state(), 1);
        due("run(9)", x.run(9), x.state());
        due("state() of an answer", x.state(), 0);
        x.clause();
        due("state() after clause()", x.state(), 1);
        x.run(9);
        due("state() of none", x.state(), 2);
        x.literal(0, 0, true);
        due("state() after literal()", x.state(), 1);
        x.run(0);
        due("state() when spent", x.state(), 3);
        x.assume(1, true);
        due("state() after assume()", x.state(), 1);
        x.run(9);
        x.block();
        due("state() after block()", x.state(), 1);
        x.run(9);
        x.kernel(0, 0, 0);
        due("state() after kernel()", x.state(), 1);
        x.run(9);
        x.truth(0);
        x.core(0);
        x.row(0, 0);
        x.used();
        due("state(): asking changes nothing", x.state(), 0);
    }

    private static void clausesCount() {
        promise = 17;
        ClauseSearch x = new ClauseSearch(2);
        due("clauses()", x.clauses(), 0);
        tell(x, 1, 3);
        due("clauses()", x.clauses(), 1);
        tell(x, 1, 2);
        due("clauses()", x.clauses(), 2);
        x.run(99);
        due("clauses(): a row", x.clauses(), 3);
        x.block();
        due("clauses(): a barred answer", x.clauses(), 4);
        x.kernel(0, 0, 0);
        x.kernel(1, 0, 1);
        due("clauses(): a pair of kernel()", x.clauses(), 5);
        x.block();
        due("clauses(): nothing was barred", x.clauses(), 5);
    }
}
