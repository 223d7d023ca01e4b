/**
 * The boundary cases that the sentences of the document name, sentence by sentence: just inside, at,
 * and just beyond. What needs full objects is in RoomTests; that refused calls do nothing, in
 * RefusedCalls.
 */
public final class BoundaryTests extends Due {
    private static final int MOST = Integer.MAX_VALUE;
    private static final int LEAST = Integer.MIN_VALUE;

    /** More STEPS than any search needs; as an int it would be 0. */
    private static final long WRAPS_TO_NOUGHT = 1L << 32;

    public static void main(String[] args) {
        thingsAreHeld();
        thingsHaveAnEnd();
        newObjectHasNothing();
        numbersGoOn();
        clauseWithNone();
        clauseWithBoth();
        assumptionsStay();
        literalBothWays();
        literalAfterSearches();
        codesHaveAnEnd();
        kernelPairs();
        kernelKeepsPlacesApart();
        deadAtLevelNoughtAndAbove();
        deadGoesFirst();
        leastNumberGoesFirst();
        unitBeforeAssumed();
        assumedBeforeChoice();
        firstAssumptionFails();
        rowOfOneLiteral();
        rowWithLevelNought();
        rowCutsToGreatestLevel();
        rowPutsTogether();
        choiceIsAStep();
        assumptionIsAStep();
        rowIsAStep();
        restIsNoStep();
        stepsBelowNone();
        stepsBeyondInt();
        runBeginsAnew();
        goOnInEachState();
        goOnInParts();
        truthInEachState();
        blockUntilNone();
        assumedEitherWay();
        freelyInEachState();
        coreHasAnEnd();
        coreAtLevelNought();
        rowsHaveAnEnd();
        usedAcrossCalls();
        stateBehindEachCall();
        clausesOfEachKind();
        end();
    }

    /** "things is held to 1 .. 300 (what is below counts as 1, what is above as 300)" */
    private static void thingsAreHeld() {
        promise = 1;
        int[] asked = {LEAST, -300, -1, 0, 1, 2, 299, 300, 301, 600, MOST};
        int[] held = {1, 1, 1, 1, 1, 2, 299, 300, 300, 300, 300};
        for (int n = 0; n < asked.length; n++) {
            ClauseSearch x = new ClauseSearch(asked[n]);
            due("run(1000) of " + asked[n], x.run(1000), 0);
            due("used(): a choice for each of " + asked[n], x.used(), held[n]);
            due("assume(last) of " + asked[n], x.assume(held[n] - 1, true), true);
            due("assume(one more) of " + asked[n], x.assume(held[n], true), false);
            due("run(1000) of " + asked[n], x.run(1000), 0);
            due("truth(last) of " + asked[n], x.truth(held[n] - 1), true);
            due("truth(one more) of " + asked[n], x.truth(held[n]), false);
        }
    }

    /** "THINGS 0 .. things - 1"; "when there is no such thing" */
    private static void thingsHaveAnEnd() {
        int[] sizes = {1, 2, 150, 300};
        for (int things : sizes) {
            int[] tried = {LEAST, -1, 0, things - 1, things, things + 1, MOST};
            for (int thing : tried) {
                boolean is = thing >= 0 && thing < things;
                ClauseSearch x = new ClauseSearch(things);
                promise = 3;
                x.clause();
                due("literal(0, " + thing + ", true) of " + things, x.literal(0, thing, true), is);
                due("literal(0, " + thing + ", false) of " + things, x.literal(0, thing, false), is);
                promise = 4;
                due("kernel(" + thing + ", 0, 0) of " + things, x.kernel(thing, 0, 0), is);
                promise = 9;
                due("assume(" + thing + ", true) of " + things, x.assume(thing, true), is);
                promise = 7;
                due("run(1000)", x.run(1000), is ? 0 : 2);
                due("truth(" + thing + ") of " + things, x.truth(thing), is);
            }
        }
    }

    /** "No clauses, no assumptions." */
    private static void newObjectHasNothing() {
        promise = 1;
        ClauseSearch x = new ClauseSearch(2);
        due("clauses()", x.clauses(), 0);
        due("rows()", x.rows(), 0);
        due("row(0, 0)", x.row(0, 0), -1);
        due("numberOf(0)", x.numberOf(0), -1);
        due("core(0)", x.core(0), -1);
        due("used()", x.used(), 0);
        due("state()", x.state(), 1);
        due("truth(0)", x.truth(0), false);
        due("literal(0, 0, true)", x.literal(0, 0, true), false);
        due("goOn(5)", x.goOn(5), false);
        due("block()", x.block(), false);
        due("assume(0, false)", x.assume(0, false), true);
        due("assume(1, true)", x.assume(1, true), true);
        due("kernel(0, 0, 0)", x.kernel(0, 0, 0), true);
        due("clause()", x.clause(), 0);
    }

    /** "Clauses are numbered from 0 on in the order in which they come (rows that are learned, too)" */
    private static void numbersGoOn() {
        promise = 2;
        ClauseSearch x = new ClauseSearch(4);
        due("clause() is 0", tell(x, 1, 3), 0);
        due("clause() is 1", tell(x, 1, 2), 1);
        due("run(100): a row is 2", x.run(100), 0);
        due("numberOf(0)", x.numberOf(0), 2);
        due("block() is 3", x.block(), true);
        due("kernel(2, 0, 0) is none", x.kernel(2, 0, 0), true);
        due("kernel(3, 0, 1) is 4", x.kernel(3, 0, 1), true);
        due("clause() is 5", tell(x, 5, 7), 5);
        due("clause() is 6", x.clause(), 6);
        due("clauses()", x.clauses(), 7);
    }

    /** "A clause may have none": DEAD at once, at level 0. */
    private static void clauseWithNone() {
        promise = 2;
        ClauseSearch x = new ClauseSearch(3);
        due("clause()", x.clause(), 0);
        due("run(0)", x.run(0), 2);
        due("run(100)", x.run(100), 2);
        due("used()", x.used(), 0);
        due("rows()", x.rows(), 0);
        x = new ClauseSearch(3);
        tell(x, 1);
        tell(x);
        tell(x, 3);
        x.assume(2, true);
        x.assume(0, false);
        due("run(100): before any unit or assumption", x.run(100), 2);
        due("used()", x.used(), 0);
        due("core(0)", x.core(0), -1);
        x = new ClauseSearch(3);
        x.clause();
        due("literal(0, 2, true)", x.literal(0, 2, true), true);
        due("run(0): with one it is a unit", x.run(0), 3);
        due("run(2)", x.run(2), 0);
        due("truth(2)", x.truth(2), true);
    }

    /** "or both literals of a thing": such a clause is never DEAD, and never UNIT. */
    private static void clauseWithBoth() {
        promise = 3;
        ClauseSearch x = new ClauseSearch(2);
        tell(x, 1, 0);
        due("run(1)", x.run(1), 3);
        due("run(2): no unit", x.run(2), 0);
        due("used()", x.used(), 2);
        due("truth(0)", x.truth(0), false);
        x.assume(0, true);
        due("run(2): met either way", x.run(2), 0);
        due("truth(0)", x.truth(0), true);
        x = new ClauseSearch(3);
        tell(x, 4, 5, 1);
        x.assume(0, false);
        due("run(2): two are left of it, so no unit", x.run(2), 3);
        due("goOn(1)", x.goOn(1), true);
        due("used()", x.used(), 3);
        due("rows()", x.rows(), 0);
    }

    /** "Assumptions stay": what is told does not end them, nor does a search. */
    private static void assumptionsStay() {
        promise = 2;
        ClauseSearch x = new ClauseSearch(4);
        x.assume(3, true);
        x.clause();
        x.literal(0, 0, true);
        x.kernel(1, 0, 0);
        x.kernel(2, 0, 1);
        due("run(100)", x.run(100), 0);
        due("truth(3)", x.truth(3), true);
        x.block();
        due("run(100)", x.run(100), 0);
        due("truth(3)", x.truth(3), true);
        due("assume(3, true)", x.assume(3, true), false);
        tell(x, 6);
        due("run(100)", x.run(100), 2);
        due("core(0)", x.core(0), 7);
    }

    /** "it has the literal": the same thing the other way is another literal. */
    private static void literalBothWays() {
        promise = 3;
        for (int n = 0; n < 2; n++) {
            boolean truth = n == 0;
            ClauseSearch x = new ClauseSearch(2);
            x.clause();
            due("literal(0, 1, " + truth + ")", x.literal(0, 1, truth), true);
            due("literal(0, 1, " + truth + ") again", x.literal(0, 1, truth), false);
            due("literal(0, 1, " + !truth + ")", x.literal(0, 1, !truth), true);
            due("literal(0, 1, " + !truth + ") again", x.literal(0, 1, !truth), false);
            due("clause()", x.clause(), 1);
            due("literal(1, 1, " + truth + "): another clause has it", x.literal(1, 1, truth), true);
        }
    }

    /** "the clause that came last": searches that learn nothing, and kernels without a pair, bring none. */
    private static void literalAfterSearches() {
        promise = 3;
        ClauseSearch x = new ClauseSearch(5);
        x.clause();
        due("run(0)", x.run(0), 2);
        due("literal(0, 0, true) without an answer", x.literal(0, 0, true), true);
        due("run(0)", x.run(0), 3);
        due("literal(0, 1, true) when spent", x.literal(0, 1, true), true);
        due("run(100)", x.run(100), 0);
        due("literal(0, 2, true) of an answer", x.literal(0, 2, true), true);
        due("block() of none", x.block(), false);
        due("kernel(0, 0, 0)", x.kernel(0, 0, 0), true);
        due("kernel(1, 1, 0)", x.kernel(1, 1, 0), true);
        x.freely();
        x.assume(0, false);
        due("literal(0, 3, true)", x.literal(0, 3, true), true);
        due("kernel(2, 1, 1) makes clause 1", x.kernel(2, 1, 1), true);
        due("literal(0, 4, true)", x.literal(0, 4, true), false);
        due("literal(1, 4, true)", x.literal(1, 4, true), false);
    }

    /** "a place has a symbol (0 to 65,535 each)" */
    private static void codesHaveAnEnd() {
        promise = 4;
        int[] tried = {LEAST, -65536, -1, 0, 1, 65534, 65535, 65536, 131071, MOST};
        for (int code : tried) {
            boolean is = code >= 0 && code <= 65535;
            due("kernel(0, " + code + ", 3)", new ClauseSearch(2).kernel(0, code, 3), is);
            due("kernel(0, 3, " + code + ")", new ClauseSearch(2).kernel(0, 3, code), is);
            due("kernel(0, " + code + ", same)", new ClauseSearch(2).kernel(0, code, code), is);
        }
        ClauseSearch x = new ClauseSearch(4);
        due("kernel(0, 0, 65535)", x.kernel(0, 0, 65535), true);
        due("kernel(1, 65535, 0)", x.kernel(1, 65535, 0), true);
        due("clauses(): other places", x.clauses(), 0);
        due("kernel(2, 65535, 65535)", x.kernel(2, 65535, 65535), true);
        due("kernel(3, 0, 0)", x.kernel(3, 0, 0), true);
        due("clauses()", x.clauses(), 2);
    }

    /** "With each other thing (in order) that was told of the place before, it makes a clause" */
    private static void kernelPairs() {
        promise = 4;
        ClauseSearch x = new ClauseSearch(30);
        int clauses = 0;
        for (int n = 0; n < 30; n++) {
            due("kernel " + n, x.kernel(29 - n, 7, n), true);
            clauses += n;
            due("clauses() of " + (n + 1) + " things", x.clauses(), clauses);
        }
        x.assume(12, true);
        due("run(0)", x.run(0), 3);
        due("run(1): all others are false", x.run(1), 0);
        due("truth(12)", x.truth(12), true);
        due("truth(0)", x.truth(0), false);
        x.freely();
        due("run(30): none need be true", x.run(30), 0);
        due("used()", x.used(), 30);
    }

    /** "the thing was told already, another one was told of place and symbol" */
    private static void kernelKeepsPlacesApart() {
        promise = 4;
        ClauseSearch x = new ClauseSearch(5);
        due("kernel(0, 1, 2)", x.kernel(0, 1, 2), true);
        due("kernel(1, 2, 1): the other way round", x.kernel(1, 2, 1), true);
        due("kernel(2, 2, 2): place and symbol of two others", x.kernel(2, 2, 2), true);
        due("clauses(): 1 and 2 are at place 2", x.clauses(), 1);
        due("kernel(3, 1, 2)", x.kernel(3, 1, 2), false);
        due("kernel(0, 3, 3)", x.kernel(0, 3, 3), false);
        due("kernel(3, 3, 3): what was refused to 0", x.kernel(3, 3, 3), true);
        x.freely();
        due("kernel(0, 4, 4): freely() forgets no kernels", x.kernel(0, 4, 4), false);
        due("clauses()", x.clauses(), 1);
    }

    /** "At level 0: there is NO ANSWER. Otherwise a row is learned, one STEP" */
    private static void deadAtLevelNoughtAndAbove() {
        promise = 5;
        ClauseSearch x = new ClauseSearch(3);
        tell(x, 1);
        tell(x, 0, 3);
        tell(x, 0, 2);
        due("run(0): dead at level 0", x.run(0), 2);
        due("rows()", x.rows(), 0);
        x = new ClauseSearch(3);
        tell(x, 0, 3);
        tell(x, 0, 2);
        x.assume(0, true);
        due("run(1): dead at level 1", x.run(1), 3);
        due("rows()", x.rows(), 0);
        due("goOn(1): a row, and its literal against the assumption", x.goOn(1), true);
        due("state()", x.state(), 2);
        dueRow(x, 0, 0);
        due("used()", x.used(), 2);
    }

    /**
     * "the first of these that can be: DEAD": behind 0 (false) and 1, clause 3 is dead while 1 and 2
     * are units. Were a unit taken first, clause 2 would be the least that is dead.
     */
    private static void deadGoesFirst() {
        promise = 5;
        ClauseSearch x = new ClauseSearch(7);
        tell(x, 1, 3);
        tell(x, 1, 5);
        tell(x, 1, 4, 13);
        tell(x, 1, 2);
        x.assume(6, false);
        x.assume(0, false);
        due("run(3)", x.run(3), 3);
        dueRow(x, 0, 1);
        due("goOn(1): 6 is assumed anew, 0 fails", x.goOn(1), true);
        due("used()", x.used(), 4);
        dueCore(x, 0);
    }

    /**
     * "the one of the least number": of two dead clauses, and of two units, wherever among the clauses
     * they stand.
     */
    private static void leastNumberGoesFirst() {
        promise = 5;
        int[] before = {0, 1, 30, 31, 32, 61, 62, 63, 64, 65, 125, 126, 127, 128};
        for (int fillers : before) {
            ClauseSearch x = new ClauseSearch(6);
            for (int n = 0; n < fillers; n++) {
                tell(x, 10, 11);
            }
            tell(x, 1, 5, 9);
            tell(x, 1, 7, 9);
            tell(x, 4, 6, 3);
            tell(x, 4, 6);
            x.assume(4, false);
            x.assume(1, false);
            x.assume(0, false);
            due("run(4) behind " + fillers + " clauses", x.run(4), 2);
            // The third and the fourth are dead, and the third is taken: so 1 is in the row.
            dueRow(x, 0, 1, 3, 9);
            due("numberOf(0)", x.numberOf(0), fillers + 4);
        }
        for (int fillers : before) {
            ClauseSearch x = new ClauseSearch(6);
            for (int n = 0; n < fillers; n++) {
                tell(x, 10, 11);
            }
            tell(x, 1, 5);
            tell(x, 1, 7, 3);
            tell(x, 4, 7);
            tell(x, 6, 1);
            x.assume(1, false);
            x.assume(0, false);
            due("run(3) behind " + fillers + " clauses", x.run(3), 2);
            // 2 by the first clause, and then 3 by the second, not by the third: so 1 is in the row.
            dueRow(x, 0, 1, 3);
        }
    }

    /** UNIT comes before ASSUMED, also at level 0. */
    private static void unitBeforeAssumed() {
        promise = 5;
        ClauseSearch x = new ClauseSearch(3);
        x.assume(1, true);
        x.assume(0, true);
        tell(x, 1);
        tell(x, 0, 3);
        due("run(1): units make the assumptions so", x.run(1), 0);
        due("used(): 2 is chosen", x.used(), 1);
        x = new ClauseSearch(3);
        x.assume(1, true);
        tell(x, 2);
        due("run(0): a unit is against it", x.run(0), 2);
        dueCore(x, 3);
    }

    /** ASSUMED comes before CHOICE, in the order of the assumptions, not of their things. */
    private static void assumedBeforeChoice() {
        promise = 5;
        ClauseSearch x = new ClauseSearch(4);
        tell(x, 6, 1);
        tell(x, 0, 4);
        x.assume(3, true);
        x.assume(2, true);
        due("run(1): 3 makes 0 so, and 2 not", x.run(1), 2);
        dueCore(x, 7, 5);
        x = new ClauseSearch(4);
        tell(x, 2, 4);
        x.assume(2, true);
        x.assume(1, true);
        due("run(1)", x.run(1), 2);
        dueCore(x, 5, 3);
        x.freely();
        x.assume(1, true);
        x.assume(2, true);
        due("run(1)", x.run(1), 2);
        dueCore(x, 3, 5);
    }

    /** "of the assumptions, in their order, the first one whose thing is not on the trail as it says" */
    private static void firstAssumptionFails() {
        promise = 5;
        ClauseSearch x = new ClauseSearch(4);
        tell(x, 2);
        tell(x, 4);
        x.assume(2, true);
        x.assume(1, true);
        due("run(0): both fail, 2 is the first", x.run(0), 2);
        dueCore(x, 5);
        x.freely();
        x.assume(0, true);
        x.assume(1, true);
        due("run(0): 0 must be tried first", x.run(0), 3);
        due("run(1)", x.run(1), 2);
        dueCore(x, 3);
    }

    /** "(0, when there are none)": behind a row of one literal the search is at level 0. */
    private static void rowOfOneLiteral() {
        promise = 5;
        ClauseSearch x = new ClauseSearch(5);
        tell(x, 7, 9);
        tell(x, 7, 8);
        tell(x, 6, 5);
        tell(x, 6, 4);
        due("run(3): 0, 1 and 2 are chosen", x.run(3), 3);
        due("rows()", x.rows(), 0);
        due("goOn(1)", x.goOn(1), true);
        due("state(): dead at level 0, though the row was of level 3", x.state(), 2);
        due("used()", x.used(), 4);
        dueRow(x, 0, 7);
        due("rows()", x.rows(), 1);
    }

    /** The row's other literal is of level 0, and stays in the row: the search is at level 0, too. */
    private static void rowWithLevelNought() {
        promise = 5;
        ClauseSearch x = new ClauseSearch(4);
        tell(x, 7);
        tell(x, 6, 1, 3);
        tell(x, 6, 1, 2);
        tell(x, 0, 5);
        tell(x, 0, 4);
        due("run(1)", x.run(1), 3);
        due("goOn(1)", x.goOn(1), true);
        due("state()", x.state(), 2);
        dueRow(x, 0, 1, 6);
        due("used()", x.used(), 2);
    }

    /** "all of levels above the greatest level of the row's other literals goes" */
    private static void rowCutsToGreatestLevel() {
        promise = 5;
        for (int other = 0; other < 4; other++) {
            ClauseSearch x = new ClauseSearch(6);
            if (other == 0) {
                tell(x, 1, 9, 11);
                tell(x, 1, 9, 10);
            } else {
                tell(x, 1, 2 * other + 1, 9, 11);
                tell(x, 1, 2 * other + 1, 9, 10);
            }
            due("run(5): the row would be a STEP more", x.run(5), 3);
            due("goOn(1)", x.goOn(1), false);
            if (other == 0) {
                dueRow(x, 0, 1, 9);
            } else {
                dueRow(x, 0, 1, 2 * other + 1, 9);
            }
            // Levels 1 .. other + 1 stay, and 4 is so: 3 - other things below it and 5 are chosen anew.
            due("goOn(one too few)", x.goOn(3 - other), false);
            due("goOn(1)", x.goOn(1), true);
            due("used()", x.used(), 6 + 3 - other + 1);
            due("truth(4)", x.truth(4), true);
            due("truth(3)", x.truth(3), false);
        }
    }

    /**
     * "as long as it has two literals or more whose things came to the trail at the present level": of
     * the dead clause 4 and 2 did; 4 goes, then 3; 2 is left, though the choice of 1 was before it.
     */
    private static void rowPutsTogether() {
        promise = 5;
        ClauseSearch x = new ClauseSearch(6);
        tell(x, 3, 5);
        tell(x, 4, 7);
        tell(x, 6, 9);
        tell(x, 8, 4, 1);
        due("run(3)", x.run(3), 3);
        dueRow(x, 0, 1, 4);
        due("goOn(100)", x.goOn(100), true);
        due("truth(1)", x.truth(1), true);
        due("truth(2)", x.truth(2), false);
        x = new ClauseSearch(6);
        tell(x, 3, 5);
        tell(x, 3, 7);
        tell(x, 6, 4, 1);
        due("run(3): only the choice is common to 2 and 3", x.run(3), 3);
        dueRow(x, 0, 1, 3);
    }

    /** "A STEP that would be one more than there are is not done" */
    private static void choiceIsAStep() {
        promise = 5;
        for (int steps = 0; steps <= 5; steps++) {
            ClauseSearch x = new ClauseSearch(4);
            due("run(" + steps + ") of 4 choices", x.run(steps), steps < 4 ? 3 : 0);
            due("used()", x.used(), Math.min(4, steps));
        }
    }

    private static void assumptionIsAStep() {
        promise = 5;
        for (int steps = 0; steps <= 3; steps++) {
            ClauseSearch x = new ClauseSearch(2);
            x.assume(1, true);
            x.assume(0, true);
            due("run(" + steps + ") of 2 assumptions", x.run(steps), steps < 2 ? 3 : 0);
            due("used()", x.used(), Math.min(2, steps));
        }
    }

    private static void rowIsAStep() {
        promise = 5;
        for (int steps = 0; steps <= 4; steps++) {
            ClauseSearch x = new ClauseSearch(2);
            tell(x, 1, 3);
            tell(x, 1, 2);
            due("run(" + steps + ") of choice, row, choice", x.run(steps), steps < 3 ? 3 : 0);
            due("used()", x.used(), Math.min(3, steps));
            due("rows()", x.rows(), steps < 2 ? 0 : 1);
            due("clauses()", x.clauses(), steps < 2 ? 2 : 3);
        }
    }

    /** Units, the answer, a dead clause at level 0 and an assumption that fails are no STEPS. */
    private static void restIsNoStep() {
        promise = 5;
        ClauseSearch x = new ClauseSearch(2);
        tell(x, 1);
        tell(x, 0, 3);
        due("run(0): units, and the answer", x.run(0), 0);
        due("used()", x.used(), 0);
        x.assume(1, false);
        due("run(0): an assumption fails", x.run(0), 2);
        due("used()", x.used(), 0);
        dueCore(x, 2);
        tell(x, 2);
        due("run(0): dead at level 0", x.run(0), 2);
        due("used()", x.used(), 0);
        dueCore(x);
    }

    /** "(below 0: none)" */
    private static void stepsBelowNone() {
        promise = 5;
        long[] none = {0, -1, -2, LEAST, -WRAPS_TO_NOUGHT + 5, Long.MIN_VALUE, Long.MIN_VALUE + 1};
        for (long steps : none) {
            ClauseSearch x = new ClauseSearch(2);
            due("run(" + steps + ")", x.run(steps), 3);
            due("used()", x.used(), 0);
            promise = 6;
            due("run(1)", x.run(1), 3);
            due("goOn(" + steps + ")", x.goOn(steps), false);
            due("state()", x.state(), 3);
            due("used()", x.used(), 1);
            due("goOn(1)", x.goOn(1), true);
            promise = 5;
        }
    }

    private static void stepsBeyondInt() {
        long[] many = {MOST, MOST + 1L, WRAPS_TO_NOUGHT, WRAPS_TO_NOUGHT + 1, Long.MAX_VALUE - 1, Long.MAX_VALUE};
        for (long steps : many) {
            promise = 5;
            ClauseSearch x = new ClauseSearch(3);
            due("run(" + steps + ")", x.run(steps), 0);
            due("used()", x.used(), 3);
            promise = 6;
            due("run(1)", x.run(1), 3);
            due("goOn(" + steps + ")", x.goOn(steps), true);
            due("used()", x.used(), 3);
        }
    }

    /** "The search from the beginning .. Rows that were learned stay." */
    private static void runBeginsAnew() {
        promise = 5;
        ClauseSearch x = new ClauseSearch(4);
        due("run(3)", x.run(3), 3);
        due("run(3): not where the last one was", x.run(3), 3);
        due("used()", x.used(), 3);
        due("run(4)", x.run(4), 0);
        due("run(4) once more", x.run(4), 0);
        due("used()", x.used(), 4);
        x = new ClauseSearch(3);
        tell(x, 1, 3);
        tell(x, 1, 2);
        due("run(2)", x.run(2), 3);
        due("run(0): the row is a unit now", x.run(0), 3);
        due("rows()", x.rows(), 1);
        due("run(2)", x.run(2), 0);
        due("used(): 1 and 2 are chosen", x.used(), 2);
        due("truth(0)", x.truth(0), true);
        due("clauses()", x.clauses(), 3);
    }

    /** "The search goes on, when it is SPENT .. False, doing nothing, in other STATES." */
    private static void goOnInEachState() {
        promise = 6;
        ClauseSearch x = new ClauseSearch(2);
        due("goOn(2) in STATE 1", x.goOn(2), false);
        due("state()", x.state(), 1);
        due("run(1)", x.run(1), 3);
        due("goOn(0) in STATE 3", x.goOn(0), false);
        due("goOn(1) in STATE 3", x.goOn(1), true);
        due("goOn(1) in STATE 0", x.goOn(1), false);
        due("state()", x.state(), 0);
        due("used()", x.used(), 2);
        x.assume(0, true);
        tell(x, 0);
        due("run(2)", x.run(2), 2);
        due("goOn(2) in STATE 2", x.goOn(2), false);
        due("state()", x.state(), 2);
        dueCore(x, 1);
        tellsEndTheSearch();
    }

    /** What is told makes the STATE 1, so that a SPENT search does not go on. */
    private static void tellsEndTheSearch() {
        for (int told = 0; told < 5; told++) {
            ClauseSearch x = new ClauseSearch(3);
            tell(x, 1, 3);
            due("run(0)", x.run(0), 3);
            if (told == 0) {
                x.clause();
            } else if (told == 1) {
                x.literal(0, 2, true);
            } else if (told == 2) {
                x.kernel(0, 0, 0);
            } else if (told == 3) {
                x.assume(0, true);
            } else {
                x.freely();
            }
            due("state() behind telling " + told, x.state(), 1);
            due("goOn(100) behind telling " + told, x.goOn(100), false);
            due("state() behind goOn(100)", x.state(), 1);
            due("used()", x.used(), 0);
        }
    }

    /** "the search is SPENT, and stays as it is": it matters not how its STEPS are dealt out. */
    private static void goOnInParts() {
        promise = 6;
        for (int part = 1; part <= 12; part++) {
            ClauseSearch x = pigeons();
            int state = x.run(0);
            for (int n = 0; n < 20 && state == 3; n++) {
                due("goOn(0)", x.goOn(0), false);
                x.goOn(part);
                state = x.state();
            }
            due("state() by parts of " + part, state, 2);
            due("used() by parts of " + part, x.used(), 11);
            due("rows() by parts of " + part, x.rows(), 5);
            dueRow(x, 0, 8, 17, 23);
            dueRow(x, 1, 4);
            dueRow(x, 4, 10, 13, 19);
        }
    }

    /** Four pigeons, three holes. */
    private static ClauseSearch pigeons() {
        ClauseSearch x = new ClauseSearch(12);
        for (int pigeon = 0; pigeon < 4; pigeon++) {
            tell(x, 6 * pigeon + 1, 6 * pigeon + 3, 6 * pigeon + 5);
        }
        for (int hole = 0; hole < 3; hole++) {
            for (int one = 0; one < 3; one++) {
                for (int two = one + 1; two < 4; two++) {
                    tell(x, 6 * one + 2 * hole, 6 * two + 2 * hole);
                }
            }
        }
        return x;
    }

    /** "false without one" */
    private static void truthInEachState() {
        promise = 7;
        ClauseSearch x = new ClauseSearch(3);
        tell(x, 1);
        tell(x, 5);
        due("truth(0) in STATE 1", x.truth(0), false);
        due("run(0)", x.run(0), 3);
        due("truth(0) in STATE 3, though on the trail", x.truth(0), false);
        due("goOn(1)", x.goOn(1), true);
        due("truth(-1)", x.truth(-1), false);
        due("truth(0)", x.truth(0), true);
        due("truth(1)", x.truth(1), false);
        due("truth(2)", x.truth(2), true);
        due("truth(3)", x.truth(3), false);
        x.assume(1, true);
        due("truth(0) in STATE 1", x.truth(0), false);
        tell(x, 2);
        due("run(9)", x.run(9), 2);
        due("truth(0) in STATE 2, though on the trail", x.truth(0), false);
    }

    /** "THE ANSWER is barred": each of the answers comes once, and then there is none. */
    private static void blockUntilNone() {
        promise = 8;
        for (int things = 1; things <= 5; things++) {
            ClauseSearch x = new ClauseSearch(things);
            boolean[] seen = new boolean[1 << things];
            for (int n = 0; n < seen.length; n++) {
                due("run(1000), answer " + n + " of " + things, x.run(1000), 0);
                int answer = 0;
                for (int thing = 0; thing < things; thing++) {
                    answer += x.truth(thing) ? 1 << thing : 0;
                }
                due("answer " + answer + " is a new one", seen[answer], false);
                seen[answer] = true;
                due("block()", x.block(), true);
                due("state()", x.state(), 1);
                due("truth(0)", x.truth(0), false);
                due("block() again", x.block(), false);
            }
            due("run(1000) with all barred", x.run(1000), 2);
            due("block()", x.block(), false);
            due("core(0)", x.core(0), -1);
            due("clauses()", x.clauses(), seen.length + x.rows());
        }
    }

    /** "it is assumed already (either way)" */
    private static void assumedEitherWay() {
        promise = 9;
        for (int n = 0; n < 2; n++) {
            boolean truth = n == 0;
            ClauseSearch x = new ClauseSearch(3);
            due("assume(1, " + truth + ")", x.assume(1, truth), true);
            due("assume(1, " + truth + ") again", x.assume(1, truth), false);
            due("assume(1, " + !truth + ")", x.assume(1, !truth), false);
            due("assume(0, " + !truth + ")", x.assume(0, !truth), true);
            due("assume(2, " + truth + ")", x.assume(2, truth), true);
            due("run(3)", x.run(3), 0);
            due("truth(0)", x.truth(0), !truth);
            due("truth(1)", x.truth(1), truth);
            due("truth(2)", x.truth(2), truth);
            due("assume(1, " + !truth + ") behind a search", x.assume(1, !truth), false);
            x.freely();
            due("assume(1, " + !truth + ") behind freely()", x.assume(1, !truth), true);
        }
    }

    /** "No assumptions any more; the STATE is 1": also when there were none. */
    private static void freelyInEachState() {
        promise = 10;
        ClauseSearch x = new ClauseSearch(2);
        x.freely();
        due("state() from 1", x.state(), 1);
        due("run(2)", x.run(2), 0);
        x.freely();
        due("state() from 0", x.state(), 1);
        due("truth(0)", x.truth(0), false);
        due("run(1)", x.run(1), 3);
        x.freely();
        due("state() from 3", x.state(), 1);
        due("used()", x.used(), 1);
        tell(x, 0);
        x.assume(0, true);
        due("run(9)", x.run(9), 2);
        x.freely();
        due("state() from 2", x.state(), 1);
        due("core(0)", x.core(0), -1);
        due("assume(0, true): it is not assumed any more", x.assume(0, true), true);
        due("run(9)", x.run(9), 2);
        x.freely();
        x.freely();
        due("run(9)", x.run(9), 0);
        due("clauses(): clauses stay", x.clauses(), 1);
    }

    /** "-1 when there is none such (the STATE is not 2 ..)" */
    private static void coreHasAnEnd() {
        promise = 11;
        ClauseSearch x = new ClauseSearch(4);
        tell(x, 0, 4);
        x.assume(1, false);
        x.assume(2, true);
        x.assume(0, true);
        due("core(0) in STATE 1", x.core(0), -1);
        due("run(1)", x.run(1), 3);
        due("core(0) in STATE 3", x.core(0), -1);
        due("goOn(1)", x.goOn(1), true);
        int[] beyond = {LEAST, -2, -1, 2, 3, 39, 40, 41, MOST};
        for (int k : beyond) {
            due("core(" + k + ") of 2", x.core(k), -1);
        }
        dueCore(x, 5, 1);
        x.clause();
        dueCore(x);
        x.literal(1, 3, true);
        due("run(100)", x.run(100), 2);
        dueCore(x, 5, 1);
        x.freely();
        dueCore(x);
        due("run(100)", x.run(100), 0);
        due("core(0) in STATE 0", x.core(0), -1);
    }

    /** "or there was NO ANSWER at level 0": no CORE then, not even that of an earlier search. */
    private static void coreAtLevelNought() {
        promise = 11;
        ClauseSearch x = new ClauseSearch(3);
        tell(x, 0, 2);
        x.assume(0, true);
        x.assume(1, true);
        due("run(9)", x.run(9), 2);
        dueCore(x, 1, 3);
        tell(x, 5);
        tell(x, 4);
        due("run(9): dead at level 0", x.run(9), 2);
        dueCore(x);
        x = new ClauseSearch(3);
        tell(x, 1, 3);
        tell(x, 1, 2);
        tell(x, 0, 5);
        tell(x, 0, 4);
        x.assume(0, false);
        due("run(9): dead at level 0 behind a row", x.run(9), 2);
        due("rows()", x.rows(), 1);
        dueCore(x);
        x = new ClauseSearch(3);
        tell(x, 1, 3);
        tell(x, 1, 2);
        x.assume(0, false);
        due("run(9): the row is against the assumption", x.run(9), 2);
        dueCore(x, 0);
    }

    /** Promises 12 to 14: "-1 when there is none such" */
    private static void rowsHaveAnEnd() {
        ClauseSearch x = pigeons();
        promise = 12;
        due("rows()", x.rows(), 0);
        due("run(1000)", x.run(1000), 2);
        due("rows()", x.rows(), 5);
        int[] ends = {LEAST, -1, 5, 6, MOST};
        for (int k : ends) {
            promise = 13;
            due("row(" + k + ", 0) of 5 rows", x.row(k, 0), -1);
            promise = 14;
            due("numberOf(" + k + ") of 5 rows", x.numberOf(k), -1);
        }
        promise = 13;
        int[] beside = {LEAST, -1, 3, 4, MOST};
        for (int i : beside) {
            due("row(0, " + i + ") of 3 literals", x.row(0, i), -1);
            due("row(4, " + i + ") of 3 literals", x.row(4, i), -1);
        }
        dueRow(x, 0, 8, 17, 23);
        dueRow(x, 4, 10, 13, 19);
        promise = 14;
        for (int k = 0; k < 5; k++) {
            due("numberOf(" + k + ")", x.numberOf(k), 22 + k);
        }
        promise = 12;
        due("run(1000): once more", x.run(1000), 2);
        due("rows(): how many ever", x.rows() >= 5, true);
        x.freely();
        x.clause();
        promise = 13;
        dueRow(x, 0, 8, 17, 23);
        promise = 14;
        due("numberOf(4)", x.numberOf(4), 26);
    }

    /** "STEPS of the latest run() and what went on from it." */
    private static void usedAcrossCalls() {
        promise = 15;
        ClauseSearch x = new ClauseSearch(5);
        due("used()", x.used(), 0);
        x.run(2);
        due("used()", x.used(), 2);
        x.goOn(0);
        due("used() behind goOn(0)", x.used(), 2);
        x.goOn(2);
        due("used() behind goOn(2)", x.used(), 4);
        x.goOn(100);
        due("used() behind goOn(100)", x.used(), 5);
        x.goOn(100);
        due("used() behind goOn(100) of an answer", x.used(), 5);
        x.block();
        x.clause();
        x.literal(1, 0, true);
        x.assume(4, true);
        x.kernel(0, 0, 0);
        x.freely();
        due("used() behind what was told", x.used(), 5);
        x.run(-1);
        due("used() behind run(-1)", x.used(), 0);
        x.run(Long.MAX_VALUE);
        due("used(): 0 is a unit, the others are chosen", x.used(), 4);
    }

    /** THE STATE: "1 nothing was searched since something was told", from each of the others. */
    private static void stateBehindEachCall() {
        promise = 16;
        for (int from = 0; from < 4; from++) {
            due("clause() from " + from, brought(from).clause(), from == 2 ? 2 : 1);
            ClauseSearch x = brought(from);
            x.clause();
            due("state() behind clause() from " + from, x.state(), 1);
            x = brought(from);
            due("literal() from " + from, x.literal(x.clauses() - 1, 2, true), true);
            due("state() behind literal() from " + from, x.state(), 1);
            x = brought(from);
            due("kernel() from " + from, x.kernel(2, 0, 0), true);
            due("state() behind kernel() from " + from, x.state(), 1);
            x = brought(from);
            due("assume() from " + from, x.assume(2, true), true);
            due("state() behind assume() from " + from, x.state(), 1);
            x = brought(from);
            x.freely();
            due("state() behind freely() from " + from, x.state(), 1);
            x = brought(from);
            due("block() from " + from, x.block(), from == 0);
            due("state() behind block() from " + from, x.state(), from == 0 ? 1 : from);
            x = brought(from);
            due("goOn(0) from " + from, x.goOn(0), false);
            due("state() behind goOn(0) from " + from, x.state(), from);
            due("run(0) from " + from, brought(from).run(0), from == 2 ? 2 : 3);
        }
    }

    /** An object in a STATE; its last clause is of clause(). */
    private static ClauseSearch brought(int state) {
        ClauseSearch x = new ClauseSearch(3);
        tell(x, 1, 3);
        if (state == 2) {
            tell(x);
        }
        if (state != 1) {
            x.run(state == 3 ? 0 : 9);
        }
        due("state() as brought", x.state(), state);
        return x;
    }

    /** "Clauses in all, rows too." */
    private static void clausesOfEachKind() {
        promise = 17;
        ClauseSearch x = new ClauseSearch(4);
        due("clauses()", x.clauses(), 0);
        x.literal(0, 0, true);
        due("clauses() behind a refused literal", x.clauses(), 0);
        tell(x, 1, 3);
        tell(x, 1, 2);
        due("clauses() of clause()", x.clauses(), 2);
        x.run(1);
        due("clauses() before the row", x.clauses(), 2);
        x.goOn(1);
        due("clauses() with the row", x.clauses(), 3);
        x.run(100);
        due("clauses() behind another run()", x.clauses(), 3);
        x.block();
        due("clauses() of block()", x.clauses(), 4);
        x.kernel(1, 0, 0);
        due("clauses() of a kernel alone", x.clauses(), 4);
        x.kernel(2, 0, 1);
        due("clauses() of a pair", x.clauses(), 5);
        x.kernel(3, 0, 2);
        due("clauses() of two pairs more", x.clauses(), 7);
        x.assume(0, true);
        x.freely();
        due("clauses() behind freely()", x.clauses(), 7);
        due("rows()", x.rows(), 1);
    }
}
