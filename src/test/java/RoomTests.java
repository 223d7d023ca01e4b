import java.util.function.Consumer;
import java.util.function.Function;

/**
 * The limits: 1,500 clauses, 60 literals in a clause of clause(), 20,000 literals in all, 40
 * assumptions. Each is tried just inside, at, and just beyond, for each call that may come to it. No
 * object gets more than the 512 calls that are promised.
 */
public final class RoomTests extends Due {
    private static final int THINGS = 300;

    /** Things that no filling makes true or tells of a place. */
    private static final int FREE = 200;

    public static void main(String[] args) {
        clausesByClause();
        literalsOfTheLastClauseThatFits();
        clausesByKernel();
        clausesByBlock();
        clausesByRows();
        sixtyLiterals();
        barsOfAnyLength();
        rowsOfAnyLength();
        literalsByLiteral();
        literalsByKernel();
        literalsByBlock();
        literalsByRows();
        noLiteralsAreNeeded();
        fortyAssumptions();
        coreOfForty();
        end();
    }

    /** So many clauses (1,431 to 1,500): of kernel(), and the rest, of one literal each, of clause(). */
    private static ClauseSearch withClauses(int clauses) {
        ClauseSearch x = new ClauseSearch(THINGS);
        for (int thing = 0; thing < 54; thing++) {
            x.kernel(thing, 0, thing);
        }
        due("clauses() of 54 kernels", x.clauses(), 1431);
        for (int c = 1431; c < clauses; c++) {
            due("clause()", x.clause(), c);
            due("literal(" + c + ", 299, true)", x.literal(c, 299, true), true);
        }
        return x;
    }

    /** So many literals (19,682 to 19,742, or 19,982 on): of kernel(), of block(), and the rest in one last clause. */
    private static ClauseSearch withLiterals(int literals) {
        int bars = literals < 19_982 ? 65 : 66;
        ClauseSearch x = new ClauseSearch(THINGS);
        for (int thing = 250; thing < 264; thing++) {
            due("kernel(" + thing + ", 0, " + thing + ")", x.kernel(thing, 0, thing), true);
        }
        for (int bar = 0; bar < bars; bar++) {
            if (bar == 40) {
                x.freely();
            }
            // Bar by bar one thing more is true, so that no answer is near an older one.
            x.assume(bar < 40 ? bar : bar + 40, true);
            due("run(1000) before bar " + bar, x.run(1000), 0);
            due("bar " + bar, x.block(), true);
        }
        x.freely();
        int number = x.clause();
        for (int n = 0; n < literals - 182 - 300 * bars; n++) {
            due("literal(last, " + (120 + n) + ", true)", x.literal(number, 120 + n, true), true);
        }
        due("rows(): none took literals", x.rows(), 0);
        return x;
    }

    private static void conflict(ClauseSearch x) {
        tell(x, 2 * FREE, 2 * FREE + 2, 2 * FREE + 5);
        tell(x, 2 * FREE, 2 * FREE + 2, 2 * FREE + 4);
    }

    /** With conflict(), three STEPS lead to a row of two literals. */
    private static void assumeConflict(ClauseSearch x) {
        x.assume(FREE, true);
        x.assume(FREE + 1, true);
    }

    /** In each STATE that such an object can be brought to, the call is refused and does nothing. */
    private static void refused(
            String call, Function<Integer, ClauseSearch> past, int size, Function<ClauseSearch, Boolean> attempt) {
        refusedIn("told", call, past, size, x -> { }, 1, attempt);
        refusedIn("answered", call, past, size, x -> x.run(1000), 0, attempt);
        refusedIn("spent", call, past, size, x -> x.run(2), 3, attempt);
        refusedIn("no answer", call, past, size, RoomTests::fail, 2, attempt);
    }

    private static void refusedIn(
            String when, String call, Function<Integer, ClauseSearch> past, int size,
            Consumer<ClauseSearch> then, int state, Function<ClauseSearch, Boolean> attempt) {
        ClauseSearch one = past.apply(size);
        then.accept(one);
        due("state() when " + when, one.state(), state);
        Twins.refuses(call + " when " + when, THINGS, () -> {
            ClauseSearch x = past.apply(size);
            then.accept(x);
            return x;
        }, attempt);
    }

    /** Two things of one place are assumed true: of 0 and 1, or of 250 and 251. */
    private static void fail(ClauseSearch x) {
        x.assume(0, true);
        x.assume(1, true);
        x.assume(250, true);
        x.assume(251, true);
        x.run(1000);
    }

    /** "there are at most 1,500 of them"; "-1 when there is no room" */
    private static void clausesByClause() {
        promise = 2;
        ClauseSearch x = withClauses(1498);
        due("clause(), inside", x.clause(), 1498);
        due("clause(), at the limit", x.clause(), 1499);
        due("clauses()", x.clauses(), 1500);
        due("clause(), beyond", x.clause(), -1);
        due("clause(), beyond again", x.clause(), -1);
        due("clauses()", x.clauses(), 1500);
        refused("clause() beyond 1,500", RoomTests::withClauses, 1500, y -> y.clause() != -1);
    }

    /** A clause that finds no room does not take the place of the one that came last. */
    private static void literalsOfTheLastClauseThatFits() {
        promise = 3;
        ClauseSearch x = withClauses(1500);
        due("clause()", x.clause(), -1);
        due("literal(1500, 0, true)", x.literal(1500, 0, true), false);
        due("literal(-1, 0, true)", x.literal(-1, 0, true), false);
        due("literal(1498, 0, true)", x.literal(1498, 0, true), false);
        due("literal(1499, 0, true)", x.literal(1499, 0, true), true);
        due("state()", x.state(), 1);
    }

    /** "or there is no room for these clauses" */
    private static void clausesByKernel() {
        promise = 4;
        for (int before = 1494; before <= 1496; before++) {
            ClauseSearch x = withFiveAtOnePlace(before);
            boolean fits = before + 5 <= 1500;
            due("kernel(105, 9, 105) with " + before + " clauses", x.kernel(105, 9, 105), fits);
            due("clauses()", x.clauses(), fits ? before + 5 : before);
            due("kernel(106, 8, 106) makes no clause", x.kernel(106, 8, 106), true);
        }
        for (int before = 1496; before <= 1500; before++) {
            refused("kernel(105, 9, 105) with " + before, RoomTests::withFiveAtOnePlace, before,
                    x -> x.kernel(105, 9, 105));
        }
        ClauseSearch x = withFiveAtOnePlace(1496);
        due("kernel(105, 9, 105)", x.kernel(105, 9, 105), false);
        due("kernel(105, 8, 3): it was not told", x.kernel(105, 8, 3), true);
        due("kernel(106, 9, 105): nor was the symbol", x.kernel(106, 9, 105), false);
        due("kernel(106, 8, 3): this one was", x.kernel(106, 8, 3), false);
        due("clauses()", x.clauses(), 1496);
        due("kernel(106, 8, 4): one clause", x.kernel(106, 8, 4), true);
        due("clauses()", x.clauses(), 1497);
    }

    /** A sixth thing at place 9 would make five clauses more. */
    private static ClauseSearch withFiveAtOnePlace(int clauses) {
        ClauseSearch x = withClauses(clauses - 10);
        for (int thing = 100; thing < 105; thing++) {
            due("kernel(" + thing + ", 9, " + thing + ")", x.kernel(thing, 9, thing), true);
        }
        due("clauses()", x.clauses(), clauses);
        return x;
    }

    /** "False, doing nothing, when there is none, or no room." */
    private static void clausesByBlock() {
        promise = 8;
        for (int before = 1498; before <= 1500; before++) {
            ClauseSearch x = withClauses(before);
            due("run(1000)", x.run(1000), 0);
            boolean fits = before < 1500;
            due("block() with " + before + " clauses", x.block(), fits);
            due("clauses()", x.clauses(), fits ? before + 1 : before);
            due("state()", x.state(), fits ? 1 : 0);
            due("truth(299)", x.truth(299), !fits);
        }
        Twins.refuses("block() beyond 1,500 clauses", THINGS, () -> {
            ClauseSearch x = withClauses(1500);
            x.run(1000);
            return x;
        }, ClauseSearch::block);
    }

    /** "A row for which there is no room is likewise not learned: SPENT." */
    private static void clausesByRows() {
        promise = 5;
        for (int before = 1498; before <= 1500; before++) {
            ClauseSearch x = withClauses(before - 2);
            conflict(x);
            assumeConflict(x);
            rowFits(x, before < 1500);
        }
    }

    private static void rowFits(ClauseSearch x, boolean fits) {
        int before = x.clauses();
        due("run(2): the row would be a STEP more", x.run(2), 3);
        due("rows()", x.rows(), 0);
        due("run(1000) with " + before + " clauses", x.run(1000), fits ? 2 : 3);
        due("used()", x.used(), fits ? 3 : 2);
        due("rows()", x.rows(), fits ? 1 : 0);
        due("clauses()", x.clauses(), fits ? before + 1 : before);
        due("numberOf(0)", x.numberOf(0), fits ? before : -1);
        due("row(0, 0)", x.row(0, 0), fits ? 2 * FREE : -1);
        due("row(0, 1)", x.row(0, 1), fits ? 2 * FREE + 2 : -1);
        due("row(0, 2)", x.row(0, 2), -1);
        due("core(1)", x.core(1), fits ? 2 * FREE + 3 : -1);
        due("goOn(1000)", x.goOn(1000), false);
        due("used() behind it", x.used(), fits ? 3 : 2);
        due("state() behind it", x.state(), fits ? 2 : 3);
        due("clauses() behind it", x.clauses(), fits ? before + 1 : before);
        if (!fits) {
            x.freely();
            due("run(1000): without assumptions no row is needed", x.run(1000), 0);
            due("used()", x.used() > 2, true);
        }
    }

    /** "with at most 60 literals each" */
    private static void sixtyLiterals() {
        promise = 3;
        ClauseSearch x = withInOneClause(59);
        due("literal 60", x.literal(0, 59, true), true);
        due("literal 61", x.literal(0, 60, true), false);
        due("literal 61, the other truth of a thing", x.literal(0, 0, false), false);
        due("clause()", x.clause(), 1);
        due("literal of the next clause", x.literal(1, 60, true), true);
        refused("literal 61", RoomTests::withInOneClause, 60, y -> y.literal(y.clauses() - 1, 100, true));
        x = new ClauseSearch(30);
        x.clause();
        for (int thing = 0; thing < 30; thing++) {
            due("literal(0, " + thing + ", true)", x.literal(0, thing, true), true);
            due("literal(0, " + thing + ", false)", x.literal(0, thing, false), true);
        }
        due("literal(0, 0, true): it has 60 and this one", x.literal(0, 0, true), false);
        due("run(30): both literals of 30 things", x.run(30), 0);
        x = withInOneClause(60);
        x.freely();
        for (int thing = 0; thing < 20; thing++) {
            x.assume(thing, false);
        }
        due("run(1000): the sixtieth literal is in the clause", x.run(1000), 0);
        due("truth(58)", x.truth(58), false);
        due("truth(59)", x.truth(59), true);
        due("truth(60)", x.truth(60), false);
    }

    /** The one clause has so many literals; behind it, at places of their own, what fail() needs. */
    private static ClauseSearch withInOneClause(int literals) {
        ClauseSearch x = new ClauseSearch(THINGS);
        x.clause();
        for (int thing = 0; thing < literals; thing++) {
            due("literal(0, " + thing + ", true)", x.literal(0, thing, true), true);
        }
        if (literals == 60) {
            x.kernel(250, 1, 0);
            x.kernel(251, 1, 1);
            x.clause();
            for (int thing = 0; thing < literals; thing++) {
                x.literal(2, thing, true);
            }
        }
        return x;
    }

    /** "(Such a clause may have more than 60 literals.)" */
    private static void barsOfAnyLength() {
        promise = 8;
        int[] lengths = {1, 2, 59, 60, 61, 299, 300};
        for (int length : lengths) {
            ClauseSearch x = new ClauseSearch(length);
            due("run(300) of " + length, x.run(300), 0);
            due("block() of " + length, x.block(), true);
            due("run(299) of " + length, x.run(length - 1), 0);
            due("used(): the last one is a unit", x.used(), length - 1);
            due("truth(last) of " + length, x.truth(length - 1), true);
            due("truth(last but one) of " + length, x.truth(length - 2), false);
        }
    }

    /** "(rows: any number)" */
    private static void rowsOfAnyLength() {
        promise = 13;
        int[] lengths = {1, 2, 59, 60, 61, 298, 299};
        for (int length : lengths) {
            ClauseSearch x = new ClauseSearch(length + 1);
            due("run(1000)", x.run(1000), 0);
            due("block()", x.block(), true);
            due("run(1000)", x.run(1000), 0);
            due("block()", x.block(), true);
            // The two bars differ in the last thing alone.
            due("run(1000)", x.run(1000), 0);
            due("rows()", x.rows(), 1);
            due("numberOf(0)", x.numberOf(0), 2);
            for (int i = 0; i < length; i++) {
                due("row(0, " + i + ") of " + length, x.row(0, i), 2 * i + 1);
            }
            due("row(0, " + length + ")", x.row(0, length), -1);
            due("truth(last but one)", x.truth(length - 1), true);
            due("truth(last)", x.truth(length), false);
        }
    }

    /** "and at most 20,000 literals in all" */
    private static void literalsByLiteral() {
        promise = 3;
        ClauseSearch x = withLiterals(19_998);
        int last = x.clauses() - 1;
        due("literal 19,999", x.literal(last, 0, true), true);
        due("literal 20,000", x.literal(last, 0, false), true);
        due("literal 20,001", x.literal(last, 1, true), false);
        due("clause() needs no literal", x.clause(), last + 1);
        due("literal 20,001 of another clause", x.literal(last + 1, 1, true), false);
        due("run(1000): that clause can't be met", x.run(1000), 2);
        refused("literal 20,001", RoomTests::withLiterals, 20_000, y -> y.literal(y.clauses() - 1, 1, true));
    }

    private static void literalsByKernel() {
        promise = 4;
        for (int before = 19_995; before <= 20_000; before++) {
            ClauseSearch x = withTwoAtOnePlace(before);
            int clauses = x.clauses();
            boolean fits = before + 4 <= 20_000;
            due("kernel(202, 9, 2) with " + before, x.kernel(FREE + 2, 9, 2), fits);
            due("clauses()", x.clauses(), fits ? clauses + 2 : clauses);
            due("kernel(202, 8, 2): told already, or not", x.kernel(FREE + 2, 8, 2), !fits);
        }
        for (int before = 19_997; before <= 20_000; before++) {
            refused("kernel(202, 9, 2) with " + before, RoomTests::withTwoAtOnePlace, before,
                    x -> x.kernel(FREE + 2, 9, 2));
        }
        int[] around = {19_997, 19_998, 19_999};
        for (int before : around) {
            ClauseSearch x = withLiterals(before);
            due("kernel(200, 9, 0) makes no clause", x.kernel(FREE, 9, 0), true);
            due("kernel(201, 9, 1) with " + before, x.kernel(FREE + 1, 9, 1), before + 2 <= 20_000);
        }
    }

    /** A third thing at place 9 would make two clauses more, of four literals. */
    private static ClauseSearch withTwoAtOnePlace(int literals) {
        ClauseSearch x = withLiterals(literals - 2);
        due("kernel(200, 9, 0)", x.kernel(FREE, 9, 0), true);
        due("kernel(201, 9, 1)", x.kernel(FREE + 1, 9, 1), true);
        return x;
    }

    private static void literalsByBlock() {
        promise = 8;
        for (int before = 19_699; before <= 19_701; before++) {
            ClauseSearch x = withLiterals(before);
            int clauses = x.clauses();
            due("run(1000)", x.run(1000), 0);
            boolean fits = before + 300 <= 20_000;
            due("block() with " + before + " literals", x.block(), fits);
            due("clauses()", x.clauses(), fits ? clauses + 1 : clauses);
            due("state()", x.state(), fits ? 1 : 0);
            x.clause();
            int more = 0;
            while (more < 2 && x.literal(x.clauses() - 1, more, true)) {
                more++;
            }
            due("literals that come then", more, fits ? Math.min(2, 20_000 - 300 - before) : 2);
        }
        Twins.refuses("block() beyond 20,000 literals", THINGS, () -> {
            ClauseSearch x = withLiterals(19_701);
            x.run(1000);
            return x;
        }, ClauseSearch::block);
    }

    private static void literalsByRows() {
        promise = 5;
        for (int before = 19_997; before <= 20_000; before++) {
            ClauseSearch x = withLiterals(before - 6);
            conflict(x);
            assumeConflict(x);
            rowFits(x, before + 2 <= 20_000);
            x.clause();
            boolean room = before < 19_998 || before == 19_999;
            due("literal behind it with " + before, x.literal(x.clauses() - 1, 0, true), room);
        }
    }

    /** What brings no literals finds room though there is none for literals. */
    private static void noLiteralsAreNeeded() {
        promise = 4;
        ClauseSearch x = withLiterals(20_000);
        due("kernel(200, 9, 0) makes no clause", x.kernel(FREE, 9, 0), true);
        due("assume(200, true)", x.assume(FREE, true), true);
        due("run(1000)", x.run(1000), 0);
        due("block()", x.block(), false);
        due("clause()", x.clause() >= 0, true);
        due("run(0): a clause without literals is dead", x.run(0), 2);
    }

    /** "or 40 are" */
    private static void fortyAssumptions() {
        promise = 9;
        ClauseSearch x = assuming(39);
        due("assumption 40", x.assume(39, true), true);
        due("assumption 41", x.assume(40, true), false);
        due("assumption 41, assumed already", x.assume(0, true), false);
        due("run(40): things that are left are chosen", x.run(40), 3);
        due("run(300)", x.run(300), 0);
        due("truth(39)", x.truth(39), true);
        due("truth(40)", x.truth(40), false);
        x.freely();
        for (int thing = 0; thing < 40; thing++) {
            due("assumption " + (thing + 1) + " behind freely()", x.assume(100 + thing, true), true);
        }
        due("assumption 41 behind freely()", x.assume(0, true), false);
        due("run(300)", x.run(300), 0);
        due("truth(139)", x.truth(139), true);
        due("truth(39)", x.truth(39), false);
        refusedIn("told", "assumption 41", RoomTests::assuming, 40, y -> { }, 1, y -> y.assume(40, true));
        refusedIn("answered", "assumption 41", RoomTests::assuming, 40, y -> y.run(300), 0, y -> y.assume(40, true));
        refusedIn("spent", "assumption 41", RoomTests::assuming, 40, y -> y.run(40), 3, y -> y.assume(40, true));
        refusedIn("no answer", "assumption 41", RoomTests::assuming, 40, RoomTests::denyFirst, 2,
                y -> y.assume(40, true));
    }

    private static ClauseSearch assuming(int assumptions) {
        ClauseSearch x = new ClauseSearch(THINGS);
        for (int thing = 0; thing < assumptions; thing++) {
            due("assume(" + thing + ", true)", x.assume(thing, true), true);
        }
        return x;
    }

    private static void denyFirst(ClauseSearch x) {
        tell(x, 0);
        x.run(1000);
    }

    /** "The k-th assumption of the CORE": as many as can be. */
    private static void coreOfForty() {
        promise = 11;
        for (int assumptions = 38; assumptions <= 40; assumptions++) {
            ClauseSearch x = assuming(assumptions);
            x.clause();
            for (int thing = 0; thing < assumptions; thing++) {
                x.literal(0, thing, false);
            }
            due("run(1000): not all of them", x.run(1000), 2);
            due("used(): all but the last", x.used(), assumptions - 1);
            for (int k = 0; k < assumptions; k++) {
                due("core(" + k + ")", x.core(k), 2 * k + 1);
            }
            due("core(" + assumptions + ")", x.core(assumptions), -1);
        }
    }
}
