import java.util.LinkedHashMap;
import java.util.Map;
import java.util.function.Function;
import java.util.function.Supplier;

/**
 * "False, doing nothing": each call that the document refuses, in each STATE in which it does, and
 * each question, which does nothing either. What needs full objects is in RoomTests.
 */
public final class RefusedCalls extends Due {
    private static final int THINGS = 8;
    private static final int MOST = Integer.MAX_VALUE;
    private static final int LEAST = Integer.MIN_VALUE;

    private static final Map<String, Supplier<ClauseSearch>> PASTS = new LinkedHashMap<>();

    public static void main(String[] args) {
        PASTS.put("answered", RefusedCalls::answered);
        PASTS.put("told", RefusedCalls::told);
        PASTS.put("no answer by assumptions", RefusedCalls::noneAssumed);
        PASTS.put("no answer at level 0", RefusedCalls::noneAtAll);
        PASTS.put("spent before a choice", RefusedCalls::spentBeforeChoice);
        PASTS.put("spent before a row", RefusedCalls::spentBeforeRow);
        pastsAreAsMeant();
        literals();
        literalsOfOthers();
        kernels();
        goesOn();
        blocks();
        assumptions();
        questions();
        end();
    }

    /** Clause 0 is of kernel(), 3 is the last; 7 is assumed. A row {2} is learned once 2 is false. */
    private static ClauseSearch base() {
        ClauseSearch x = new ClauseSearch(THINGS);
        x.kernel(0, 5, 1);
        x.kernel(1, 5, 2);
        tell(x, 5, 7);
        tell(x, 5, 6);
        tell(x, 9, 11);
        x.assume(7, true);
        return x;
    }

    /** As in all that follow, the last clause is of clause(), and 4 (true) is in it. */
    private static ClauseSearch answered() {
        ClauseSearch x = base();
        x.run(100);
        tell(x, 9, 13);
        x.run(100);
        return x;
    }

    private static ClauseSearch told() {
        ClauseSearch x = answered();
        x.assume(6, true);
        return x;
    }

    private static ClauseSearch noneAssumed() {
        ClauseSearch x = answered();
        x.assume(0, true);
        x.assume(1, true);
        x.run(100);
        return x;
    }

    private static ClauseSearch noneAtAll() {
        ClauseSearch x = base();
        x.run(100);
        tell(x, 4);
        tell(x, 9, 13);
        x.run(100);
        return x;
    }

    private static ClauseSearch spentBeforeChoice() {
        ClauseSearch x = answered();
        x.run(2);
        return x;
    }

    private static ClauseSearch spentBeforeRow() {
        ClauseSearch x = base();
        x.run(4);
        return x;
    }

    private static void pastsAreAsMeant() {
        int[] states = {0, 1, 2, 2, 3, 3};
        int[] rows = {1, 1, 1, 1, 1, 0};
        int[] cores = {-1, -1, 1, -1, -1, -1};
        int at = 0;
        for (String past : PASTS.keySet()) {
            ClauseSearch x = PASTS.get(past).get();
            due("state() when " + past, x.state(), states[at]);
            due("rows() when " + past, x.rows(), rows[at]);
            due("core(0) when " + past, x.core(0), cores[at]);
            at++;
        }
    }

    /** The call is refused, and does nothing, in each of the STATES that are named (as digits). */
    private static void refused(String call, String states, Function<ClauseSearch, Boolean> attempt) {
        for (String past : PASTS.keySet()) {
            if (states.indexOf('0' + PASTS.get(past).get().state()) >= 0) {
                Twins.refuses(call + " when " + past, THINGS, PASTS.get(past), attempt);
            }
        }
    }

    /** "false, doing nothing, when it is another clause, there is no such thing, it has the literal" */
    private static void literals() {
        promise = 3;
        refused("literal(the one before, 6, false)", "0123", x -> x.literal(x.clauses() - 2, 6, false));
        refused("literal(0, 6, false)", "0123", x -> x.literal(0, 6, false));
        refused("literal(clauses(), 6, false)", "0123", x -> x.literal(x.clauses(), 6, false));
        refused("literal(-1, 6, false)", "0123", x -> x.literal(-1, 6, false));
        refused("literal(least, 6, false)", "0123", x -> x.literal(LEAST, 6, false));
        refused("literal(most, 6, false)", "0123", x -> x.literal(MOST, 6, false));
        refused("literal(last, -1, true)", "0123", x -> x.literal(x.clauses() - 1, -1, true));
        refused("literal(last, 8, false)", "0123", x -> x.literal(x.clauses() - 1, 8, false));
        refused("literal(last, least, true)", "0123", x -> x.literal(x.clauses() - 1, LEAST, true));
        refused("literal(last, most, true)", "0123", x -> x.literal(x.clauses() - 1, MOST, true));
        refused("literal(last, 4, true): has it", "0123", x -> x.literal(x.clauses() - 1, 4, true));
    }

    /** "A literal comes to the clause that came last, if that is one of clause()" */
    private static void literalsOfOthers() {
        promise = 3;
        Map<String, Supplier<ClauseSearch>> lasts = new LinkedHashMap<>();
        lasts.put("no clause", () -> new ClauseSearch(THINGS));
        lasts.put("a row", () -> {
            ClauseSearch x = base();
            x.run(100);
            return x;
        });
        lasts.put("a clause of kernel()", () -> {
            ClauseSearch x = base();
            x.kernel(2, 5, 3);
            return x;
        });
        lasts.put("a clause of block()", () -> {
            ClauseSearch x = answered();
            x.block();
            return x;
        });
        for (String last : lasts.keySet()) {
            Supplier<ClauseSearch> past = lasts.get(last);
            Twins.refuses("literal(last, 6, true) behind " + last, THINGS, past, x -> x.literal(x.clauses() - 1, 6, true));
            Twins.refuses("literal(3, 6, true) behind " + last, THINGS, past, x -> x.literal(3, 6, true));
            Twins.refuses("literal(-1, 6, true) behind " + last, THINGS, past, x -> x.literal(-1, 6, true));
        }
    }

    /** "False, doing nothing, when there is no such thing, place or symbol, the thing was told already, another .." */
    private static void kernels() {
        promise = 4;
        refused("kernel(-1, 9, 9)", "0123", x -> x.kernel(-1, 9, 9));
        refused("kernel(8, 9, 9)", "0123", x -> x.kernel(8, 9, 9));
        refused("kernel(least, 9, 9)", "0123", x -> x.kernel(LEAST, 9, 9));
        refused("kernel(most, 9, 9)", "0123", x -> x.kernel(MOST, 9, 9));
        refused("kernel(2, -1, 9)", "0123", x -> x.kernel(2, -1, 9));
        refused("kernel(2, 65536, 9)", "0123", x -> x.kernel(2, 65536, 9));
        refused("kernel(2, least, 9)", "0123", x -> x.kernel(2, LEAST, 9));
        refused("kernel(2, 65536 + 5, 9): 5 if wrapped", "0123", x -> x.kernel(2, 65536 + 5, 9));
        refused("kernel(2, 5, -1)", "0123", x -> x.kernel(2, 5, -1));
        refused("kernel(2, 5, 65536)", "0123", x -> x.kernel(2, 5, 65536));
        refused("kernel(2, 5, most)", "0123", x -> x.kernel(2, 5, MOST));
        refused("kernel(0, 9, 9): told already", "0123", x -> x.kernel(0, 9, 9));
        refused("kernel(0, 5, 9): told already", "0123", x -> x.kernel(0, 5, 9));
        refused("kernel(0, 5, 1): told already, this very thing", "0123", x -> x.kernel(0, 5, 1));
        refused("kernel(2, 5, 1): another one was told of it", "0123", x -> x.kernel(2, 5, 1));
        refused("kernel(2, 5, 2): another one was told of it", "0123", x -> x.kernel(2, 5, 2));
    }

    /** "False, doing nothing, in other STATES." */
    private static void goesOn() {
        promise = 6;
        refused("goOn(0)", "012", x -> x.goOn(0));
        refused("goOn(5)", "012", x -> x.goOn(5));
        refused("goOn(-1)", "012", x -> x.goOn(-1));
        refused("goOn(most)", "012", x -> x.goOn(Long.MAX_VALUE));
        // When it is SPENT, no STEPS more change nothing either.
        refused("goOn(0)", "3", x -> x.goOn(0));
        refused("goOn(-1)", "3", x -> x.goOn(-1));
        refused("goOn(least)", "3", x -> x.goOn(Long.MIN_VALUE));
    }

    /** "False, doing nothing, when there is none" */
    private static void blocks() {
        promise = 8;
        refused("block()", "123", ClauseSearch::block);
        Twins.refuses("block() of a new object", THINGS, () -> new ClauseSearch(THINGS), ClauseSearch::block);
        Twins.refuses("block() again", THINGS, () -> {
            ClauseSearch x = answered();
            x.block();
            return x;
        }, ClauseSearch::block);
    }

    /** "False, doing nothing, when there is no such thing, it is assumed already (either way)" */
    private static void assumptions() {
        promise = 9;
        refused("assume(-1, true)", "0123", x -> x.assume(-1, true));
        refused("assume(8, false)", "0123", x -> x.assume(8, false));
        refused("assume(least, true)", "0123", x -> x.assume(LEAST, true));
        refused("assume(most, true)", "0123", x -> x.assume(MOST, true));
        refused("assume(7, true): assumed already", "0123", x -> x.assume(7, true));
        refused("assume(7, false): assumed the other way", "0123", x -> x.assume(7, false));
    }

    private static void questions() {
        for (String past : PASTS.keySet()) {
            Supplier<ClauseSearch> made = PASTS.get(past);
            ClauseSearch x = made.get();
            promise = 7;
            asked("truth(7) when " + past, made, y -> y.truth(7) ? 1 : 0, x.state() == 0 ? 1 : 0);
            asked("truth(-1) when " + past, made, y -> y.truth(-1) ? 1 : 0, 0);
            asked("truth(8) when " + past, made, y -> y.truth(8) ? 1 : 0, 0);
            promise = 11;
            asked("core(0) when " + past, made, y -> y.core(0), x.core(0));
            asked("core(-1) when " + past, made, y -> y.core(-1), -1);
            asked("core(most) when " + past, made, y -> y.core(MOST), -1);
            promise = 12;
            asked("rows() when " + past, made, ClauseSearch::rows, x.rows());
            promise = 13;
            asked("row(0, 0) when " + past, made, y -> y.row(0, 0), x.rows() == 1 ? 5 : -1);
            asked("row(-1, 0) when " + past, made, y -> y.row(-1, 0), -1);
            asked("row(1, 0) when " + past, made, y -> y.row(1, 0), -1);
            asked("row(0, -1) when " + past, made, y -> y.row(0, -1), -1);
            asked("row(0, 1) when " + past, made, y -> y.row(0, 1), -1);
            promise = 14;
            asked("numberOf(0) when " + past, made, y -> y.numberOf(0), x.rows() == 1 ? 4 : -1);
            asked("numberOf(-1) when " + past, made, y -> y.numberOf(-1), -1);
            asked("numberOf(1) when " + past, made, y -> y.numberOf(1), -1);
            promise = 15;
            asked("used() when " + past, made, y -> (int) y.used(), (int) x.used());
            promise = 16;
            asked("state() when " + past, made, ClauseSearch::state, x.state());
            promise = 17;
            asked("clauses() when " + past, made, ClauseSearch::clauses, x.clauses());
        }
    }

    private static void asked(
            String call, Supplier<ClauseSearch> past, Function<ClauseSearch, Integer> question, int due) {
        Twins.answers(call, THINGS, past, question, due);
    }
}
